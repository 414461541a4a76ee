/** Promises 1 to 5 and what 29 tells of them. */
final class RowsCases {
    private RowsCases() {
    }

    static void run() {
        fresh();
        row();
        set();
        copy();
        drop();
        status();
    }

    private static void fresh() {
        BirchLeaf x = new BirchLeaf();
        for (int what = 0; what < 8; what++) {
            Checks.due(1, "count(" + what + ")", x.count(what), 0);
        }
        Checks.due(1, "status", x.status(), 0);
        Checks.due(1, "fault", x.fault(), 0);
        Checks.due(1, "trace", x.trace(0), Checks.NONE);
        Checks.due(1, "undo", x.undo(), Checks.STATE);
        Checks.due(1, "pass", x.pass(0), Checks.BAD);
        Checks.due(1, "last", x.last(0), Checks.STATE);
        Checks.due(1, "restore", x.restore(0), Checks.STATE);
        for (int row = 0; row < 8; row++) {
            Checks.due(1, "drop", x.drop(row), Checks.NULL);
        }
    }

    private static void row() {
        BirchLeaf x = new BirchLeaf();
        Checks.due(2, "row 0", x.row(0, 0, 0), 0);
        Checks.due(2, "row 7", x.row(7, 2, 40), 40);
        Checks.due(2, "rows", x.count(0), 2);
        Checks.due(2, "n above 40", x.row(1, 0, 41), Checks.BAD);
        Checks.due(2, "n far above", x.row(1, 0, Integer.MAX_VALUE), Checks.BAD);
        Checks.due(2, "row -1", x.row(-1, 0, 1), Checks.BAD);
        Checks.due(2, "row 8", x.row(8, 0, 1), Checks.BAD);
        Checks.due(2, "lane -1", x.row(1, -1, 1), Checks.BAD);
        Checks.due(2, "lane 3", x.row(1, 3, 1), Checks.BAD);
        Checks.due(2, "fewer than none", x.row(1, 1, -1), Checks.SIZE);
        Checks.due(2, "far fewer", x.row(1, 1, Integer.MIN_VALUE), Checks.SIZE);
        Checks.due(2, "BAD ahead of SIZE", x.row(8, 1, -1), Checks.BAD);
        Checks.due(2, "BAD lane ahead of SIZE", x.row(1, 3, -1), Checks.BAD);
        Checks.due(2, "refused, nothing is made", x.count(0), 2);
        Checks.due(2, "found, the row stays", x.row(7, 0, -1), Checks.SIZE);
        Checks.due(2, "it had", x.drop(7), 40);
        x.row(3, 2, 2);
        x.set(3, 0, 5);
        x.set(3, 1, 4);
        Checks.due(2, "in its place", x.row(3, 2, 3), 3);
        for (int i = 0; i < 3; i++) {
            Checks.due(2, "0 at first, also anew " + i, item(x, 3, i, 2), 0);
        }
    }

    /** What stands in a row, 0 to 5: no call reads an item, but where() takes it for a trader. */
    private static int item(BirchLeaf x, int row, int i, int lane) {
        Hills.read(x, "night 60 60; trader priest 1 0; trader priest 1 0; trader priest 1 0; "
                + "trader priest 1 0; trader priest 1 0; trader priest 1 0; way 0 1 1 0; way 0 2 1 0; "
                + "way 0 3 1 0; way 0 4 1 0; way 0 5 1 0;");
        x.row(6, lane, 2);
        x.copy(row, i, 6, 0, 1);
        x.set(6, 1, 60);
        int bits = x.where(6, 0, 1, 60);
        for (int trader = 0; trader < 6; trader++) {
            if (bits == 1 << trader) {
                return trader;
            }
        }
        return -1;
    }

    private static void set() {
        BirchLeaf x = new BirchLeaf();
        x.row(0, 0, 3);
        x.row(1, 1, 3);
        x.row(2, 2, 3);
        Checks.due(3, "byte", x.set(0, 0, 127), 127);
        Checks.due(3, "byte 128", x.set(0, 0, 128), -128);
        Checks.due(3, "byte 255", x.set(0, 1, 255), -1);
        Checks.due(3, "byte 256", x.set(0, 2, 256), 0);
        Checks.due(3, "byte -129", x.set(0, 2, -129), 127);
        Checks.due(3, "short", x.set(1, 0, 32767), 32767);
        Checks.due(3, "short 32768", x.set(1, 0, 32768), -32768);
        Checks.due(3, "short 65537", x.set(1, 2, 65537), 1);
        Checks.due(3, "int", x.set(2, 0, Integer.MIN_VALUE), Integer.MIN_VALUE);
        Checks.due(3, "int like a finding", x.set(2, 0, Checks.PLACE), Checks.PLACE);
        Checks.due(29, "that is none", x.status(), 0);
        Checks.due(3, "row -1", x.set(-1, 0, 1), Checks.BAD);
        Checks.due(3, "row 8", x.set(8, 0, 1), Checks.BAD);
        Checks.due(3, "missing", x.set(3, -1, 1), Checks.NULL);
        Checks.due(3, "place -1", x.set(0, -1, 1), Checks.PLACE);
        Checks.due(3, "place 3", x.set(0, 3, 1), Checks.PLACE);
        Checks.due(3, "place far", x.set(0, Integer.MAX_VALUE, 1), Checks.PLACE);
        Checks.due(3, "place far below", x.set(0, Integer.MIN_VALUE, 1), Checks.PLACE);
        x.row(4, 0, 0);
        Checks.due(3, "an empty one", x.set(4, 0, 1), Checks.PLACE);
        x.row(5, 0, 40);
        Checks.due(3, "the last of 40", x.set(5, 39, 9), 9);
        Checks.due(3, "none behind it", x.set(5, 40, 9), Checks.PLACE);
        x.set(1, 1, 3);
        Checks.due(3, "it is that then", item(x, 1, 1, 1), 3);
    }

    private static void copy() {
        BirchLeaf x = new BirchLeaf();
        x.row(0, 2, 5);
        x.row(1, 2, 4);
        x.row(2, 1, 4);
        for (int i = 0; i < 5; i++) {
            x.set(0, i, i);
        }
        Checks.due(4, "copy", x.copy(0, 1, 1, 0, 4), 4);
        Checks.due(4, "first", item(x, 1, 0, 2), 1);
        Checks.due(4, "last", item(x, 1, 3, 2), 4);
        Checks.due(4, "upward onto itself", x.copy(0, 0, 0, 1, 4), 4);
        for (int i = 0; i < 5; i++) {
            Checks.due(4, "as they were ahead " + i, item(x, 0, i, 2), Math.max(0, i - 1));
        }
        Checks.due(4, "downward onto itself", x.copy(0, 2, 0, 0, 3), 3);
        for (int i = 0; i < 5; i++) {
            Checks.due(4, "as they were below " + i, item(x, 0, i, 2), i < 3 ? i + 1 : i - 1);
        }
        Checks.due(4, "none", x.copy(0, 5, 1, 4, 0), 0);
        Checks.due(4, "row -1", x.copy(-1, 0, 0, 0, 0), Checks.BAD);
        Checks.due(4, "row 8", x.copy(0, 0, 8, 0, 0), Checks.BAD);
        Checks.due(4, "from a missing one", x.copy(3, 0, 0, 0, 0), Checks.NULL);
        Checks.due(4, "to a missing one", x.copy(0, 0, 3, 0, 0), Checks.NULL);
        Checks.due(4, "two lanes", x.copy(0, 0, 2, 0, 1), Checks.STORE);
        Checks.due(4, "two lanes, no place", x.copy(0, -1, 2, 0, 1), Checks.STORE);
        Checks.due(4, "missing ahead of lanes", x.copy(2, 0, 3, 0, 1), Checks.NULL);
        Checks.due(4, "i", x.copy(0, -1, 1, 0, 1), Checks.PLACE);
        Checks.due(4, "j", x.copy(0, 0, 1, -1, 1), Checks.PLACE);
        Checks.due(4, "n", x.copy(0, 0, 1, 0, -1), Checks.PLACE);
        Checks.due(4, "beyond a's end", x.copy(1, 1, 0, 0, 4), Checks.PLACE);
        Checks.due(4, "beyond b's end", x.copy(0, 0, 1, 0, 5), Checks.PLACE);
        Checks.due(4, "none from beyond", x.copy(0, 6, 1, 0, 0), Checks.PLACE);
        Checks.due(4, "none to beyond", x.copy(0, 0, 1, 5, 0), Checks.PLACE);
        Checks.due(4, "far beyond", x.copy(0, Integer.MAX_VALUE, 1, 0, Integer.MAX_VALUE), Checks.PLACE);
        Checks.due(4, "far below", x.copy(0, 1, 1, 0, Integer.MIN_VALUE), Checks.PLACE);
        Checks.due(4, "found, nothing is copied", item(x, 1, 0, 2), 1);
    }

    private static void drop() {
        BirchLeaf x = new BirchLeaf();
        x.row(2, 0, 11);
        x.row(3, 1, 0);
        Checks.due(5, "drop", x.drop(2), 11);
        Checks.due(5, "an empty one", x.drop(3), 0);
        Checks.due(5, "again", x.drop(2), Checks.NULL);
        Checks.due(5, "rows", x.count(0), 0);
        Checks.due(5, "row -1", x.drop(-1), Checks.BAD);
        Checks.due(5, "row 8", x.drop(8), Checks.BAD);
        x.row(2, 0, 2);
        Checks.due(5, "made anew", x.drop(2), 2);
    }

    private static void status() {
        BirchLeaf x = new BirchLeaf();
        x.row(0, 0, -5);
        Checks.due(29, "SIZE", x.status(), 4);
        x.row(0, 0, 41);
        Checks.due(29, "BAD leaves it", x.status(), 4);
        x.row(0, 0, 2);
        Checks.due(29, "none", x.status(), 0);
        x.set(0, 2, 0);
        Checks.due(29, "PLACE", x.status(), 2);
        x.set(9, 2, 0);
        Checks.due(29, "BAD set leaves it", x.status(), 2);
        x.set(0, 0, 0);
        Checks.due(29, "a set without", x.status(), 0);
        x.drop(1);
        Checks.due(29, "NULL", x.status(), 1);
        x.drop(-1);
        Checks.due(29, "BAD drop leaves it", x.status(), 1);
        x.row(1, 1, 2);
        x.copy(0, 0, 1, 0, 1);
        Checks.due(29, "STORE", x.status(), 5);
        x.copy(0, 0, 9, 0, 1);
        Checks.due(29, "BAD copy leaves it", x.status(), 5);
        x.copy(0, 0, 0, 1, 1);
        Checks.due(29, "a copy without", x.status(), 0);
        x.copy(0, 0, 2, 0, 1);
        Checks.due(29, "NULL of a copy", x.status(), 1);
        x.drop(1);
        Checks.due(29, "a drop without", x.status(), 0);
        x.set(1, 0, 0);
        Checks.due(29, "NULL of a set", x.status(), 1);
        x.where(1, 0, 0, 0);
        Checks.due(29, "STATE leaves it", x.status(), 1);
        x.feed(1, 9);
        x.hill();
        x.count(0);
        Checks.due(29, "calls without a row leave it", x.status(), 1);
    }
}
