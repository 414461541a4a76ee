/** KINDS, section 4, promises 24 to 28, and the 512 calls: each boundary from both sides. */
final class AskBounds {
    private static final int LEAST = Integer.MIN_VALUE, GREATEST = Integer.MAX_VALUE;
    /** Of each of the KINDS 0 to 5 whether each of the sorts, from baker on, is one. */
    private static final String[] ARE = {"11111", "11100", "01000", "00100", "00011", "00001"};

    private AskBounds() {
    }

    static void run() {
        kinds();
        asRefused();
        asFound();
        asOthers();
        askRefused();
        askAlone();
        askTrace();
        askAll();
        askAfresh();
        traceEnds();
        countRefused();
        counts();
        lastCalls();
        manyCalls();
        neverThrows();
    }

    private static void kinds() {
        for (int trader : new int[] {-1, 5, 6, LEAST, GREATEST}) {
            Twins.refused(24, "kind of " + trader, Stages::taped, x -> x.kind(trader), Checks.BAD);
        }
        Twins.refused(24, "no hill", Stages::bare, x -> x.kind(0), Checks.BAD);
        for (int trader = 0; trader < 5; trader++) {
            int one = trader;
            Twins.only(24, "kind of " + one, Stages::taped, x -> x.kind(one), one + 1);
        }
        for (int traders = 1; traders <= 6; traders++) {
            BirchLeaf x = Hills.with("night 9 9;" + Hills.times("trader blind 8 7;", traders));
            Checks.due(24, "the last of " + traders, x.kind(traders - 1), 5);
            Checks.due(24, "behind " + traders, x.kind(traders), Checks.BAD);
        }
    }

    private static void asRefused() {
        Twins.refused(25, "no hill", Stages::bare, x -> x.as(0, 0), Checks.BAD);
        for (int far : new int[] {-1, 6, 7, LEAST, GREATEST}) {
            Twins.refused(25, "kind " + far, Stages::taped, x -> x.as(0, far), Checks.BAD);
            Twins.refused(25, "trader " + far, Stages::taped, x -> x.as(far, 0), Checks.BAD);
        }
        Twins.refused(25, "trader 5 of 5", Stages::taped, x -> x.as(5, 0), Checks.BAD);
        Twins.refused(25, "BAD trader ahead of KIND", Stages::taped, x -> x.as(5, 5), Checks.BAD);
        Twins.refused(25, "BAD kind of a priest", Stages::taped, x -> x.as(3, 6), Checks.BAD);
    }

    /** By each KIND each is asked for: his number, or KIND, and nothing changes but status(). */
    private static void asFound() {
        for (int trader = 0; trader < 5; trader++) {
            for (int kind = 0; kind <= 5; kind++) {
                int one = trader;
                int as = kind;
                String what = trader + " as " + kind;
                if (ARE[kind].charAt(trader) == '1') {
                    Twins.but(25, what, Stages::taped, x -> x.as(one, as), trader, "status", 0);
                } else {
                    Twins.refused(25, what, Stages::taped, x -> x.as(one, as), Checks.KIND);
                    Checks.due(29, "KIND is 3", statusOf(one, as), 3);
                }
            }
        }
    }

    private static int statusOf(int trader, int kind) {
        BirchLeaf x = Hills.with(Hills.FIVE);
        x.as(trader, kind);
        return x.status();
    }

    private static void asOthers() {
        String[] sorts = {"baker", "miller", "knower", "priest", "blind"};
        for (int sort = 0; sort < 5; sort++) {
            BirchLeaf x = Hills.with("night 9 9;" + Hills.times("trader priest 1 1;", 5) + "trader " + sorts[sort] + " 1 1;");
            for (int kind = 0; kind <= 5; kind++) {
                Checks.due(25, "trader 5, a " + sorts[sort] + ", as " + kind, x.as(5, kind),
                        ARE[kind].charAt(sort) == '1' ? 5 : Checks.KIND);
            }
            Checks.due(24, "his kind stays", x.kind(5), sort + 1);
        }
    }

    private static void askRefused() {
        Twins.refused(26, "no hill", Stages::bare, x -> x.ask(0, 0), Checks.BAD);
        for (int what = 0; what <= 1; what++) {
            int w = what;
            for (int trader : new int[] {-1, 5, 6, LEAST, GREATEST}) {
                Twins.refused(26, trader + " asked " + w, Stages::taped, x -> x.ask(trader, w), Checks.BAD);
            }
        }
        for (int what : new int[] {-1, 2, 10, 20, LEAST, GREATEST}) {
            Twins.refused(26, "ask " + what, Stages::taped, x -> x.ask(0, what), Checks.BAD);
        }
    }

    /** Nothing but THE TRACE becomes another: by one more, it is as it was. */
    private static void askAlone() {
        int[][] due = {{35, 15}, {-31 + 28, -28}, {9 - 998, -998}, {-95, 98}, {-172, 176}};
        for (int trader = 0; trader < due.length; trader++) {
            for (int what = 0; what <= 1; what++) {
                int one = trader;
                int w = what;
                Twins.only(26, trader + " asked " + what, Stages::taped, x -> {
                    int answer = x.ask(one, w);
                    x.ask(3, 1);
                    return answer;
                }, due[one][w]);
            }
        }
    }

    private static void asked(BirchLeaf x, int trader, int what, int due, int... bodies) {
        Checks.due(26, "ask " + trader + " " + what, x.ask(trader, what), due);
        for (int i = 0; i < 16; i++) {
            Checks.due(27, "trace " + i + " of " + trader + " " + what, x.trace(i), i < bodies.length ? bodies[i] : Checks.NONE);
        }
    }

    /** Each of the BODIES as it begins; what is asked within others is asked of the same one anew. */
    private static void askTrace() {
        BirchLeaf x = new BirchLeaf();
        Stages.much(x);
        asked(x, 0, 0, 20 + 0 + 15, 11, 10, 21, 20);
        asked(x, 0, 1, 0 + 15, 21, 20);
        asked(x, 1, 0, -(31 + 2 * (1 - 15)), 12, 11, 10, 24, 21, 20);
        asked(x, 1, 1, 2 * (1 - 15), 24, 21, 20);
        asked(x, 2, 0, 9 + (2 + 0 - 1000), 11, 10, 22, 21, 20);
        asked(x, 2, 1, 2 + 0 - 1000, 22, 21, 20);
        asked(x, 3, 0, 5 - 100, 13, 10);
        asked(x, 3, 1, 3 - (5 - 100), 23, 20, 13, 10);
        asked(x, 4, 0, 2 * (14 - 100), 14, 13, 10);
        asked(x, 4, 1, 4 - 2 * (14 - 100), 23, 20, 14, 13, 10);
    }

    /** Each sort at each number, with GIVES at either end, with WINS above and below 0. */
    private static void askAll() {
        String[] sorts = {"baker", "miller", "knower", "priest", "blind"};
        for (int gives : new int[] {0, 1, 50, 99}) {
            for (int sort = 0; sort < 5; sort++) {
                for (int one = 0; one < 6; one++) {
                    StringBuilder text = new StringBuilder("night 60 0;");
                    for (int trader = 0; trader < 6; trader++) {
                        text.append(trader == one ? "trader " + sorts[sort] + " " + gives + " 60;" : "trader priest 7 0;");
                    }
                    int other = one == 0 ? 1 : 0;
                    BirchLeaf x = Hills.with(text + "way " + one + " " + other + " 2 0;");
                    if (one == 0) {
                        x.pass(other);
                    } else {
                        x.pass(one);
                    }
                    int wins = one == 0 ? 7 : -(sort == 1 ? gives / 2 : gives);
                    Checks.due(13, "wins", x.trader(one, 3), wins);
                    int mark = one + wins;
                    int[] marks = {mark, 2 * mark, mark - 1000, one - (gives - 100), one - 2 * (gives - 100)};
                    int[] sizes = {gives + mark, -(gives + 2 * mark), gives + mark - 1000, gives - 100, 2 * (gives - 100)};
                    Checks.due(26, "size of a " + sorts[sort] + " " + one, x.ask(one, 0), sizes[sort]);
                    Checks.due(26, "mark of a " + sorts[sort] + " " + one, x.ask(one, 1), marks[sort]);
                }
            }
        }
    }

    /** THE TRACE is empty ahead of an ask; where that is refused, and by all other calls, it stays. */
    private static void askAfresh() {
        BirchLeaf x = Hills.with(Hills.FIVE);
        asked(x, 1, 0, -(31 + 2), 12, 11, 10, 24, 21, 20);
        asked(x, 3, 0, -95, 13, 10);
        x.ask(5, 0);
        x.ask(0, 2);
        x.ask(-1, -1);
        x.pass(1);
        x.undo();
        x.as(0, 5);
        Hills.read(x, Hills.ROUND);
        x.image(0);
        x.restore(0);
        x.row(0, 0, -1);
        Checks.due(27, "it stays", x.trace(0), 13);
        Checks.due(27, "all of it", x.trace(1), 10);
        Checks.due(27, "no more of it", x.trace(2), Checks.NONE);
    }

    private static void traceEnds() {
        for (int i : new int[] {-1, 16, 17, LEAST, GREATEST, 4}) {
            Twins.only(27, "trace " + i, Stages::taped, x -> x.trace(i), Checks.NONE);
        }
        int[] bodies = {23, 20, 13, 10};
        for (int i = 0; i < bodies.length; i++) {
            int number = i;
            Twins.only(27, "trace " + i, Stages::taped, x -> x.trace(number), bodies[i]);
        }
        for (int i = -1; i <= 17; i++) {
            Checks.due(27, "none yet " + i, new BirchLeaf().trace(i), Checks.NONE);
        }
    }

    private static void countRefused() {
        for (int what : new int[] {-1, 8, 9, LEAST, GREATEST}) {
            Twins.refused(28, "count " + what, Stages::taped, x -> x.count(what), Checks.BAD);
            Twins.refused(28, "count " + what + " of none", Stages::bare, x -> x.count(what), Checks.BAD);
        }
    }

    private static void counts() {
        int[] due = {4, 5, 7, 4, 4, 39, 1, 7};
        for (int what = 0; what < due.length; what++) {
            int w = what;
            Twins.only(28, "count " + w, Stages::taped, x -> x.count(w), due[w]);
            Twins.only(28, "count " + w + " of none", Stages::nothing, x -> x.count(w), 0);
        }
        BirchLeaf x = new BirchLeaf();
        x.row(7, 0, 0);
        x.feed(0, 8);
        int[] none = {1, 0, 0, 0, 0, 0, 0, 8};
        for (int what = 0; what < none.length; what++) {
            Checks.due(28, "without a hill, count " + what, x.count(what), none[what]);
        }
    }

    /** At most 512 calls: the 512th answers as it would have at first, whatever was called ahead of it. */
    private static void lastCalls() {
        Twins.Call[] calls = {x -> x.row(0, 2, 40), x -> x.set(0, 39, 5), x -> x.copy(0, 0, 0, 1, 39), x -> x.feed(32, 1),
            x -> x.hill(), x -> x.bribe(30), x -> x.most(0, 0, 0), x -> x.sure(0, 0), x -> x.crow(3), x -> x.last(0),
            x -> x.where(0, 0, 10, 60), x -> x.image(0), x -> x.restore(0), x -> x.ask(1, 0), x -> x.worth(0, 0)};
        for (int call = 0; call < calls.length; call++) {
            BirchLeaf x = Hills.with(Hills.ROUND);
            x.row(0, 2, 40);
            int ahead = (Hills.ROUND.length() + 7) / 8 + 2;
            for (int i = ahead; i < 511; i++) {
                calls[call].on(x);
            }
            Checks.due(18, "the 512th call, behind call " + call, x.most(1, 12, 0), 61);
        }
    }

    private static void manyCalls() {
        BirchLeaf x = Hills.with(Hills.ROUND);
        int ahead = (Hills.ROUND.length() + 7) / 8 + 1;
        for (int i = ahead; i < 510; i++) {
            x.bribe(1 + i % 60);
        }
        Checks.due(12, "the 511th call", x.undo(), 23);
        Checks.due(28, "the 512th call", x.count(5), 1 + 508 % 60);
        BirchLeaf y = new BirchLeaf();
        for (int i = 0; i < 510; i++) {
            y.row(i % 8, i % 3, i % 41);
        }
        Checks.due(28, "rows", y.count(0), 8);
        Checks.due(5, "the 512th call of rows", y.drop(5), 509 % 41);
    }

    /** Every call, in every state, with every kind of number: what is not a number of the document is BAD or found. */
    private static void neverThrows() {
        int[] far = {LEAST, LEAST + 1, -1000001, -1, 0, 1, 2, 5, 6, 7, 8, 10, 11, 16, 39, 40, 41, 60, 61, GREATEST / 2 + 1,
            GREATEST - 1, GREATEST};
        int answers = 0;
        for (Twins.Ahead ahead : new Twins.Ahead[] {Stages::nothing, Stages::taped, Stages.minute(60), Stages.bytes(400)}) {
            for (int a : far) {
                for (int b : far) {
                    BirchLeaf x = new BirchLeaf();
                    ahead.on(x);
                    answers += ones(x, a, b);
                    for (int c : far) {
                        x.row(a, b, c);
                        x.set(a, b, c);
                        x.there(a, b, c);
                        x.most(a, b, c);
                        for (int d : new int[] {LEAST, -1, 0, 1, 10, 41, 60, GREATEST}) {
                            x.where(a, b, c, d);
                            x.copy(a, b, d & 7, d, c);
                            x.copy(a, d, a, b, c);
                        }
                    }
                }
            }
        }
        Checks.that("every call answers", answers > 0);
    }

    private static int ones(BirchLeaf x, int a, int b) {
        x.trader(a, b);
        x.takes(a, b);
        x.worth(a, b);
        x.sure(a, b);
        x.as(a, b);
        x.ask(a, b);
        x.pass(a);
        x.waits(b);
        x.bribe(a);
        x.last(a);
        x.crow(a);
        x.image(a);
        x.restore(b);
        x.kind(a);
        x.trace(a);
        x.count(a);
        x.drop(a);
        x.feed((long) a << 32 | b, b);
        x.undo();
        x.hill();
        x.fault();
        x.status();
        return 1;
    }
}
