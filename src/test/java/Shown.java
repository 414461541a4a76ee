import java.util.Arrays;

/**
 * All that the calls show of an object, each answer with its label; the object is of no use behind that.
 *
 * What calls show is looked at in parts, each of which can be the first: what a refused call changes would not
 * be noticed if the looking made a call, refused alike, ahead of the one that shows it.
 */
final class Shown {
    /** Who is told as a row's item is read by: 0 to 5 are with the leaf in MINUTE 60, each if told so. */
    static final String SIX = "night 60 60;trader priest 1 0;trader priest 1 0;trader priest 1 0;trader priest 1 0;"
            + "trader priest 1 0;trader priest 1 0;way 0 1 1 0;way 0 2 1 0;way 0 3 1 0;way 0 4 1 0;way 0 5 1 0;";
    static final int PARTS = 20;
    private static final int KEPT = 4;
    private static final int MOST = 3000;

    private final BirchLeaf x;
    private final String[] labels = new String[MOST];
    private final int[] numbers = new int[MOST];
    private final int[] answers = new int[MOST];
    private int length = 0;

    private Shown(BirchLeaf x) {
        this.x = x;
    }

    static Shown of(BirchLeaf x, int first) {
        Shown shown = new Shown(x);
        for (int part = 0; part < PARTS; part++) {
            shown.part((first + part) % PARTS);
        }
        return shown;
    }

    /** What other parts make another (status(), fault()) is looked at ahead of all. */
    static Shown keptFirst(BirchLeaf x, int first) {
        Shown shown = new Shown(x);
        for (int part = 0; part < KEPT; part++) {
            shown.part(part);
        }
        for (int part = 0; part < PARTS - KEPT; part++) {
            shown.part(KEPT + (first + part) % (PARTS - KEPT));
        }
        return shown;
    }

    /** As if the one answer with this label had been another one. */
    void become(String label, int answer) {
        for (int i = 0; i < length; i++) {
            if (labels[i].equals(label)) {
                answers[i] = answer;
                return;
            }
        }
        throw new IllegalStateException("nothing is shown of " + label);
    }

    boolean isAs(Shown other) {
        return Arrays.equals(answers, 0, length, other.answers, 0, other.length)
                && Arrays.equals(labels, 0, length, other.labels, 0, other.length);
    }

    /** What other answers there are, the first few of them. */
    String unlike(Shown other) {
        StringBuilder text = new StringBuilder();
        for (int i = 0; i < Math.min(length, other.length) && text.length() < 200; i++) {
            if (answers[i] != other.answers[i] || !labels[i].equals(other.labels[i])) {
                text.append(labels[i]).append(' ').append(numbers[i]).append(": ").append(answers[i]).append(" for ")
                        .append(other.answers[i]).append("; ");
            }
        }
        return text.append(length).append(" answers for ").append(other.length).toString();
    }

    private int put(String label, int number, int answer) {
        labels[length] = label;
        numbers[length] = number;
        answers[length] = answer;
        length++;
        return answer;
    }

    private void part(int part) {
        switch (part) {
            case 0:
                put("status", 0, x.status());
                break;
            case 1:
                put("fault", 0, x.fault());
                break;
            case 2:
                counts();
                break;
            case 3:
                trace();
                break;
            case 4:
                night();
                break;
            case 5:
                traders();
                break;
            case 6:
                ways();
                break;
            case 7:
                foretold();
                break;
            case 8:
                acts();
                break;
            case 9:
            case 10:
                image(part - 9);
                break;
            case 11:
                tape();
                break;
            default:
                row(part - 12);
        }
    }

    private void counts() {
        for (int what = 0; what <= 7; what++) {
            put("count", what, x.count(what));
        }
    }

    private void trace() {
        for (int i = 0; i < 16; i++) {
            put("trace", i, x.trace(i));
        }
    }

    private void night() {
        counts();
        for (int trader = 0; trader < 6; trader++) {
            put("wins", trader, x.trader(trader, 3));
        }
    }

    private void traders() {
        for (int trader = 0; trader < 6; trader++) {
            put("kind", trader, x.kind(trader));
            put("gives", trader, x.trader(trader, 0));
            put("till", trader, x.trader(trader, 1));
            put("price", trader, x.trader(trader, 2));
            put("takes", trader, x.takes(trader, 11));
        }
    }

    private void ways() {
        for (int a = 0; a < 6; a++) {
            for (int b = a + 1; b < 6; b++) {
                put("way", 6 * a + b, x.there(a, b, 0));
                put("way", 6 * b + a, x.there(b, a, 23));
            }
        }
    }

    private void foretold() {
        for (int trader = 0; trader < 6; trader++) {
            put("worth", trader, x.worth(trader, 0));
            put("most", trader, x.most(trader, 0, 0));
            put("times", trader, x.most(trader, 0, 1));
            put("crow", trader, x.crow(trader));
        }
        put("last", 0, x.last(0));
        put("last", 1, x.last(1));
        put("where", 0, x.where(0, 0, 0, 9));
    }

    private void acts() {
        for (int left = put("undo", 0, x.undo()), n = 1; left >= 0 && n < 26; n++) {
            put("minute ahead of act", n, x.count(3));
            put("dawn ahead of act", n, x.count(5));
            put("holder ahead of act", n, x.count(6));
            left = put("undo", n, x.undo());
        }
        night();
    }

    private void image(int k) {
        put("restore", k, x.restore(k));
        night();
        put("way of image", k, x.there(0, 1, 0));
        put("acts of image", k, x.count(4));
    }

    /** A tape that has 'night 6' at its end becomes a hill by this. */
    private void tape() {
        Hills.feed(x, "0 7;trader priest 1 2;");
        put("tape", 0, x.hill());
        put("tape's dawn", 0, x.count(5));
    }

    /** Row 7 is the one by which the others are read. */
    private void row(int row) {
        if (row == 7) {
            put("drop", row, x.drop(row));
            return;
        }
        x.hill();
        Hills.read(x, SIX);
        for (int i = 0; i < 3; i++) {
            // The lanes that the rows of Stages have, first.
            int lane = (row + i) % 3;
            x.row(7, lane, 2);
            x.set(7, 1, 60);
            if (put("copy", 3 * row + lane, x.copy(row, 0, 7, 0, 0)) == 0) {
                items(row);
            }
        }
    }

    private void items(int row) {
        for (int i = 0; i <= 40 && put("a place", 100 * row + i, x.copy(row, i, 7, 0, 1)) == 1; i++) {
            put("item", 100 * row + i, x.where(7, 0, 1, 60));
        }
    }

    /** ITEMS of a row, each 0 to 5, -1 for any other; the tape, row 7 and the hill become others. */
    static int[] items(BirchLeaf x, int row, int lane, int n) {
        x.hill();
        Hills.read(x, SIX);
        x.row(7, lane, 2);
        x.set(7, 1, 60);
        int[] items = new int[n];
        for (int i = 0; i < n; i++) {
            int bits = x.copy(row, i, 7, 0, 1) == 1 ? x.where(7, 0, 1, 60) : 0;
            items[i] = bits > 0 ? Integer.numberOfTrailingZeros(bits) : -1;
        }
        return items;
    }
}
