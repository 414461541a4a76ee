import java.nio.charset.StandardCharsets;

/** Hills for the tests, and how a text comes onto the tape. */
final class Hills {
    /** All five kinds; two ways join 0 and 1, the shorter one over water. */
    static final String FIVE = "night 40 25; trader baker 20 30; trader miller 31 25; trader knower 9 60; "
            + "trader priest 5 0; trader blind 14 10; way 0 1 5 0; way 0 1 3 1; way 1 2 4 0; way 2 3 7 1; "
            + "way 3 4 2 0; way 4 0 6 0; way 2 4 9 0;";
    static final String ROUND = "night 30 18; trader baker 10 28; trader baker 12 20; trader miller 30 12; "
            + "trader priest 7 0; way 0 1 2 0; way 1 2 3 0; way 2 3 2 1; way 3 0 4 0; way 1 3 6 0; way 0 2 8 1;";
    static final String ALONE = "night 1 0; trader baker 5 0;";
    static final String TWO = "night 60 60; trader priest 10 0; trader priest 20 0; way 0 1 4 0;";

    private Hills() {
    }

    static void feed(BirchLeaf x, String text) {
        byte[] bytes = text.getBytes(StandardCharsets.ISO_8859_1);
        for (int at = 0; at < bytes.length; at += 8) {
            int n = Math.min(8, bytes.length - at);
            long w = 0;
            for (int i = 0; i < n; i++) {
                w = w << 8 | bytes[at + i] & 255;
            }
            x.feed(w, n);
        }
    }

    static int read(BirchLeaf x, String text) {
        feed(x, text);
        return x.hill();
    }

    static BirchLeaf with(String text) {
        BirchLeaf x = new BirchLeaf();
        int traders = read(x, text);
        if (traders < 1) {
            throw new IllegalStateException("no hill: " + text + " answered " + traders);
        }
        return x;
    }

    static String times(String part, int n) {
        StringBuilder text = new StringBuilder();
        for (int i = 0; i < n; i++) {
            text.append(part);
        }
        return text.toString();
    }
}
