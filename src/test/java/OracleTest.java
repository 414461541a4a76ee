/** Long runs of calls, always the same ones, on the class and on the oracle: all answers are alike. */
public final class OracleTest {
    private static final int OBJECTS = 1500, CALLS = 512;
    private static final String[] SORTS = {"baker", "miller", "knower", "priest", "blind", "cock"};
    private static final String[] ODD = {";", "way", "trader", "7", "61", "0", "1234", "\u00e9", "x", " ", "night", "31", ""};
    private static final int[] FAR = {Integer.MIN_VALUE, Integer.MAX_VALUE, -1, 100, 41, 61, 8, 7, 6};

    private long seed;
    private BirchLeaf x;
    private Oracle y;
    private String done = "";

    private OracleTest(long seed) {
        this.seed = seed;
        this.x = new BirchLeaf();
        this.y = new Oracle();
    }

    public static void main(String[] args) {
        for (int object = 0; object < OBJECTS; object++) {
            OracleTest one = new OracleTest(object * 7919L + 12345);
            one.run(object);
        }
        Checks.end("OracleTest");
    }

    private int any(int n) {
        seed = seed * 6364136223846793005L + 1442695040888963407L;
        return (int) ((seed >>> 33) % n);
    }

    /** From 0 to n - 1 as a rule, now and then anything. */
    private int mostly(int n) {
        int chance = any(40);
        return chance == 0 ? FAR[any(FAR.length)] : chance == 1 ? n : chance == 2 ? -1 : any(n);
    }

    private void run(int object) {
        int left = CALLS;
        while (left > 0) {
            int chance = any(30);
            if (chance == 0 || left == CALLS && object % 10 != 0) {
                left -= tell();
            } else if (chance == 1) {
                left -= seen();
            } else {
                left -= call(any(28));
            }
        }
        // An object's answers behind its 512th call are free: the few calls that a text is over it are not looked at.
    }

    private void due(String what, int got, int want) {
        if (got != want) {
            done = what + " of object seeded " + seed;
        }
        Checks.due(0, got == want ? what : done, got, want);
    }

    private String number(int n) {
        return (any(20) == 0 ? "0" : "") + n;
    }

    private String part(String text) {
        return any(150) == 0 ? ODD[any(ODD.length)] : text;
    }

    private String gap() {
        return any(3) == 0 ? "" : any(2) == 0 ? " " : any(20) == 0 ? "\n \n" : " ";
    }

    private String text() {
        StringBuilder text = new StringBuilder();
        text.append(part("night")).append(gap()).append(part(number(any(60) + 1))).append(" ").append(part(number(any(61))));
        text.append(gap()).append(part(";"));
        int traders = any(40) == 0 ? 7 : any(6) + 1;
        int span = any(3) == 0 ? 5 : 99;
        for (int i = 0; i < traders; i++) {
            text.append(gap()).append(part("trader")).append(" ").append(part(SORTS[any(100) == 0 ? 5 : any(5)])).append(gap());
            text.append(part(number(any(span)))).append(" ").append(part(number(any(61)))).append(part(";"));
        }
        int ways = traders < 2 ? 0 : any(40) == 0 ? 11 : any(11);
        int longest = any(2) == 0 ? 6 : 30;
        for (int i = 0; i < ways; i++) {
            int a = any(traders);
            int b = (a + 1 + any(traders - 1)) % traders;
            text.append(gap()).append(part("way")).append(gap()).append(part(number(a))).append(" ").append(part(number(b)));
            text.append(" ").append(part(number(any(longest) + 1))).append(" ").append(part(number(any(2)))).append(part(";"));
        }
        return text.toString();
    }

    private int tell() {
        byte[] bytes = text().getBytes(java.nio.charset.StandardCharsets.ISO_8859_1);
        int calls = 0;
        for (int at = 0; at < bytes.length; at += 8) {
            int n = Math.min(8, bytes.length - at);
            long w = any(1000);
            for (int i = 0; i < n; i++) {
                w = w << 8 | bytes[at + i] & 255;
            }
            due("feed", x.feed(w, n), y.feed(w, n));
            calls++;
        }
        due("hill", x.hill(), y.hill());
        due("fault", x.fault(), y.fault());
        return calls + 2;
    }

    /** A row of pairs, most of them true of one run of the night, and where the leaf was by them. */
    private int seen() {
        int row = any(8);
        int pairs = any(4) + 1;
        due("row", x.row(row, any(1) + 1, 2 * pairs), y.row(row, 1, 2 * pairs));
        for (int i = 0; i < pairs; i++) {
            int who = any(Math.max(1, x.count(1)));
            int minute = any(61);
            due("set", x.set(row, 2 * i, who), y.set(row, 2 * i, who));
            due("set", x.set(row, 2 * i + 1, minute), y.set(row, 2 * i + 1, minute));
        }
        int calls = 2 * pairs + 1;
        for (int t = any(5); t <= 60; t += 1 + any(12)) {
            int n = any(pairs + 1);
            due("where", x.where(row, 0, n, t), y.where(row, 0, n, t));
            due("status", x.status(), y.status());
            calls += 2;
        }
        return calls;
    }

    private int call(int which) {
        int a = mostly(6);
        int b = mostly(6);
        int t = mostly(61);
        int k = mostly(2);
        int r = mostly(8);
        switch (which) {
            case 0:
                int lane = mostly(3), n = mostly(41);
                due("row", x.row(r, lane, n), y.row(r, lane, n));
                break;
            case 1:
                int v = any(2) == 0 ? any(64) : any(1 << 30) * 4 + any(4);
                due("set", x.set(r, t, v), y.set(r, t, v));
                break;
            case 2:
                int s = mostly(8), i = mostly(10), j = mostly(10), m = mostly(20);
                due("copy", x.copy(r, i, s, j, m), y.copy(r, i, s, j, m));
                break;
            case 3:
                due("drop", x.drop(r), y.drop(r));
                break;
            case 4:
                int bytes = mostly(9);
                if (any(4) == 0) {
                    due("feed", x.feed(a, bytes), y.feed(a, bytes));
                }
                break;
            case 5:
                due("fault", x.fault(), y.fault());
                break;
            case 6: case 7: case 8:
                due("pass", x.pass(a), y.pass(a));
                break;
            case 9:
                int w = mostly(10);
                due("waits", x.waits(w), y.waits(w));
                break;
            case 10:
                due("bribe", x.bribe(t), y.bribe(t));
                break;
            case 11:
                due("undo", x.undo(), y.undo());
                break;
            default:
                return ask(which, a, b, t, k, r);
        }
        due("status", x.status(), y.status());
        due("count", x.count(a + 2), y.count(a + 2));
        return 3;
    }

    private int ask(int which, int a, int b, int t, int k, int r) {
        switch (which) {
            case 12:
                due("trader", x.trader(a, b), y.trader(a, b));
                break;
            case 13:
                due("takes", x.takes(a, t), y.takes(a, t));
                break;
            case 14:
                due("there", x.there(a, b, t), y.there(a, b, t));
                break;
            case 15:
                due("worth", x.worth(a, t), y.worth(a, t));
                break;
            case 16:
                due("sure", x.sure(a, t), y.sure(a, t));
                break;
            case 17: case 18:
                due("most", x.most(a, t, k), y.most(a, t, k));
                break;
            case 19:
                due("last", x.last(k), y.last(k));
                break;
            case 20:
                due("crow", x.crow(a), y.crow(a));
                break;
            case 21:
                int i = mostly(10), n = mostly(5);
                due("where", x.where(r, i, n, t), y.where(r, i, n, t));
                break;
            case 22:
                due("image", x.image(k), y.image(k));
                break;
            case 23:
                if (any(3) == 0) {
                    due("restore", x.restore(k), y.restore(k));
                }
                break;
            case 24:
                due("kind", x.kind(a), y.kind(a));
                break;
            case 25:
                due("as", x.as(a, b), y.as(a, b));
                break;
            default:
                due("ask", x.ask(a, k), y.ask(a, k));
                break;
        }
        due("trace", x.trace(b), y.trace(b));
        due("count", x.count(a), y.count(a));
        return 3;
    }
}
