import java.util.LinkedHashMap;
import java.util.Map;

/** All that the calls show of an object, by labels; the object is of no use behind that. */
final class Shown {
    /** Who is told as a row's item is read by: 0 to 5 are with the leaf in MINUTE 60, each if told so. */
    static final String SIX = "night 60 60;trader priest 1 0;trader priest 1 0;trader priest 1 0;trader priest 1 0;"
            + "trader priest 1 0;trader priest 1 0;way 0 1 1 0;way 0 2 1 0;way 0 3 1 0;way 0 4 1 0;way 0 5 1 0;";

    private final BirchLeaf x;
    private final Map<String, Integer> all = new LinkedHashMap<>();

    private Shown(BirchLeaf x) {
        this.x = x;
    }

    static Map<String, Integer> of(BirchLeaf x) {
        Shown shown = new Shown(x);
        shown.kept();
        shown.night("");
        shown.traders();
        shown.ways();
        shown.foretold();
        shown.acts();
        shown.image(0);
        shown.image(1);
        shown.tape();
        shown.rows();
        return shown.all;
    }

    private int put(String label, int answer) {
        all.put(label, answer);
        return answer;
    }

    private void kept() {
        put("status", x.status());
        put("fault", x.fault());
        put("rows", x.count(0));
        put("bytes", x.count(7));
        put("acts", x.count(4));
        for (int i = 0; i < 16; i++) {
            put("trace " + i, x.trace(i));
        }
    }

    private void night(String when) {
        put(when + "traders", x.count(1));
        put(when + "ways", x.count(2));
        put(when + "minute", x.count(3));
        put(when + "dawn", x.count(5));
        put(when + "holder", x.count(6));
        for (int trader = 0; trader < 6; trader++) {
            put(when + "wins " + trader, x.trader(trader, 3));
        }
    }

    private void traders() {
        for (int trader = 0; trader < 6; trader++) {
            put("kind " + trader, x.kind(trader));
            put("gives " + trader, x.trader(trader, 0));
            put("till " + trader, x.trader(trader, 1));
            put("price " + trader, x.trader(trader, 2));
            put("takes " + trader, x.takes(trader, 11));
        }
    }

    private void ways() {
        for (int a = 0; a < 6; a++) {
            for (int b = a + 1; b < 6; b++) {
                put("way " + a + b, x.there(a, b, 0));
                put("way back " + a + b, x.there(b, a, 23));
            }
        }
    }

    private void foretold() {
        for (int trader = 0; trader < 6; trader++) {
            put("worth " + trader, x.worth(trader, 0));
            put("most " + trader, x.most(trader, 0, 0));
            put("times " + trader, x.most(trader, 0, 1));
            put("crow " + trader, x.crow(trader));
        }
        put("last", x.last(0));
        put("since", x.last(1));
        put("where", x.where(0, 0, 0, 9));
    }

    private void acts() {
        for (int left = put("undo", x.undo()), n = 0; left >= 0 && n < 25; n++) {
            put("minute ahead of act " + n, x.count(3));
            put("dawn ahead of act " + n, x.count(5));
            put("holder ahead of act " + n, x.count(6));
            left = put("undo behind act " + n, x.undo());
        }
        night("ahead of acts ");
    }

    private void image(int k) {
        put("restore " + k, x.restore(k));
        night("image " + k + " ");
        put("image " + k + " way", x.there(0, 1, 0));
        put("image " + k + " acts", x.count(4));
    }

    /** A tape that has 'night 6' at its end becomes a hill by this. */
    private void tape() {
        Hills.feed(x, "0 7;trader priest 1 2;");
        put("tape", x.hill());
        put("tape's dawn", x.count(5));
    }

    private void rows() {
        put("row 7 had", x.drop(7));
        Hills.read(x, SIX);
        for (int lane = 0; lane < 3; lane++) {
            x.row(7, lane, 2);
            x.set(7, 1, 60);
            for (int row = 0; row < 7; row++) {
                if (put("row " + row + " of lane " + lane, x.copy(row, 0, 7, 0, 0)) == 0) {
                    items(row);
                }
            }
        }
    }

    private void items(int row) {
        for (int i = 0; i <= 40 && put("a place " + row + " " + i, x.copy(row, i, 7, 0, 1)) == 1; i++) {
            put("item " + row + " " + i, x.where(7, 0, 1, 60));
        }
    }

    /** ITEMS of a row, each 0 to 5, -1 for any other; the tape, row 7 and the hill become others. */
    static int[] items(BirchLeaf x, int row, int lane, int n) {
        x.hill();
        Hills.read(x, SIX);
        x.row(7, lane, 2);
        x.set(7, 1, 60);
        int[] items = new int[n];
        for (int i = 0; i < n; i++) {
            int bits = x.copy(row, i, 7, 0, 1) == 1 ? x.where(7, 0, 1, 60) : 0;
            items[i] = bits > 0 ? Integer.numberOfTrailingZeros(bits) : -1;
        }
        return items;
    }
}
