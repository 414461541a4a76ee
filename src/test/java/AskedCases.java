/** Promises 24 to 29: kinds, asks, counts. */
final class AskedCases {
    private AskedCases() {
    }

    static void run() {
        kind();
        as();
        size();
        mark();
        refused();
        count();
    }

    private static void kind() {
        BirchLeaf x = Hills.with(Hills.FIVE);
        for (int trader = 0; trader < 5; trader++) {
            Checks.due(24, "kind of " + trader, x.kind(trader), trader + 1);
        }
        Checks.due(24, "trader 5", x.kind(5), Checks.BAD);
        Checks.due(24, "trader -1", x.kind(-1), Checks.BAD);
        Checks.due(24, "no hill", new BirchLeaf().kind(0), Checks.BAD);
    }

    private static void as() {
        BirchLeaf x = Hills.with(Hills.FIVE);
        String[] are = {"01", "012", "013", "04", "045"};
        for (int trader = 0; trader < 5; trader++) {
            for (int kind = 0; kind <= 5; kind++) {
                boolean is = are[trader].indexOf('0' + kind) >= 0;
                Checks.due(25, trader + " as " + kind, x.as(trader, kind), is ? trader : Checks.KIND);
                Checks.due(29, "of that", x.status(), is ? 0 : 3);
            }
        }
        x.as(0, 2);
        Checks.due(25, "kind 6", x.as(0, 6), Checks.BAD);
        Checks.due(25, "kind -1", x.as(0, -1), Checks.BAD);
        Checks.due(25, "trader 5", x.as(5, 0), Checks.BAD);
        Checks.due(25, "trader -1", x.as(-1, 0), Checks.BAD);
        Checks.due(29, "BAD leaves it", x.status(), 3);
        Checks.due(25, "no hill", new BirchLeaf().as(0, 0), Checks.BAD);
        Checks.due(25, "he stays what he is", x.kind(1), 2);
    }

    private static void asked(BirchLeaf x, int trader, int what, int due, int... bodies) {
        Checks.due(26, "ask " + trader + " " + what, x.ask(trader, what), due);
        for (int i = 0; i < bodies.length; i++) {
            Checks.due(27, "trace " + i + " of " + trader + " " + what, x.trace(i), bodies[i]);
        }
        Checks.due(27, "behind it", x.trace(bodies.length), Checks.NONE);
    }

    /** FIVE, with the leaf passed so that each has won or lost. */
    private static BirchLeaf passed() {
        BirchLeaf x = Hills.with(Hills.FIVE);
        x.pass(1);
        x.pass(2);
        x.pass(3);
        x.pass(4);
        x.pass(0);
        x.pass(1);
        return x;
    }

    private static void size() {
        BirchLeaf x = passed();
        int[] wins = {10, -21, -4, 9, 6};
        for (int trader = 0; trader < 5; trader++) {
            Checks.due(13, "wins of " + trader, x.trader(trader, 3), wins[trader]);
        }
        asked(x, 0, 0, 20 + 10, 11, 10, 21, 20);
        asked(x, 1, 0, -(31 + 2 * (1 - 21)), 12, 11, 10, 24, 21, 20);
        asked(x, 2, 0, 9 + 2 - 4 - 1000, 11, 10, 22, 21, 20);
        asked(x, 3, 0, 5 - 100, 13, 10);
        asked(x, 4, 0, 2 * (14 - 100), 14, 13, 10);
    }

    private static void mark() {
        BirchLeaf x = passed();
        asked(x, 0, 1, 10, 21, 20);
        asked(x, 1, 1, 2 * (1 - 21), 24, 21, 20);
        asked(x, 2, 1, 2 - 4 - 1000, 22, 21, 20);
        asked(x, 3, 1, 3 + 95, 23, 20, 13, 10);
        asked(x, 4, 1, 4 + 172, 23, 20, 14, 13, 10);
    }

    private static void refused() {
        BirchLeaf x = Hills.with(Hills.FIVE);
        asked(x, 3, 0, -95, 13, 10);
        Checks.due(26, "what 2", x.ask(0, 2), Checks.BAD);
        Checks.due(26, "what -1", x.ask(0, -1), Checks.BAD);
        Checks.due(26, "trader 5", x.ask(5, 0), Checks.BAD);
        Checks.due(26, "trader -1", x.ask(-1, 0), Checks.BAD);
        Checks.due(27, "it stays", x.trace(0), 13);
        Hills.read(x, Hills.ROUND);
        Checks.due(27, "another hill leaves it", x.trace(1), 10);
        Checks.due(27, "i -1", x.trace(-1), Checks.NONE);
        Checks.due(27, "i 16", x.trace(16), Checks.NONE);
        Checks.due(27, "i far", x.trace(Integer.MAX_VALUE), Checks.NONE);
        Checks.due(26, "no hill", new BirchLeaf().ask(0, 0), Checks.BAD);
    }

    private static void count() {
        BirchLeaf x = passed();
        x.row(1, 0, 0);
        x.row(6, 0, 0);
        x.row(7, 0, 0);
        x.bribe(44);
        x.feed(0, 3);
        int[] due = {3, 5, 7, 25, 7, 44, 1, 3};
        for (int what = 0; what < due.length; what++) {
            Checks.due(28, "count " + what, x.count(what), due[what]);
        }
        Checks.due(28, "what 8", x.count(8), Checks.BAD);
        Checks.due(28, "what -1", x.count(-1), Checks.BAD);
    }
}
