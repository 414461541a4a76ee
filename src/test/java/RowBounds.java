/** Section 1's ROWS, promises 1 to 5, and what 29 tells of them: each boundary from both sides. */
final class RowBounds {
    private static final int LEAST = Integer.MIN_VALUE, GREATEST = Integer.MAX_VALUE;

    private RowBounds() {
    }

    static void run() {
        noHill();
        noRows();
        rowRefused();
        rowSizes();
        rowAnew();
        rowAlone();
        setRefused();
        setBits();
        setPlaces();
        copyRefused();
        copyFindings();
        copyPlaces();
        copyEnds();
        copyOntoItself();
        dropRefused();
        drops();
        statusOfRows();
        statusOfOthers();
    }

    private static void noHill() {
        for (int what = 0; what <= 7; what++) {
            Checks.due(1, "none of count " + what, new BirchLeaf().count(what), 0);
        }
        withoutHill(Stages::nothing);
        withoutHill(Stages::bare);
    }

    private static void withoutHill(Twins.Ahead none) {
        Twins.refused(1, "no trader 0 to pass to", none, x -> x.pass(0), Checks.BAD);
        Twins.refused(1, "no trader 0", none, x -> x.trader(0, 0), Checks.BAD);
        Twins.refused(1, "none that takes it", none, x -> x.takes(0, 0), Checks.BAD);
        Twins.refused(1, "none to go to", none, x -> x.there(0, 1, 0), Checks.BAD);
        Twins.refused(1, "no worth", none, x -> x.worth(0, 0), Checks.BAD);
        Twins.refused(1, "none sure", none, x -> x.sure(0, 0), Checks.BAD);
        Twins.refused(1, "no most", none, x -> x.most(0, 0, 0), Checks.BAD);
        Twins.refused(1, "no crow", none, x -> x.crow(0), Checks.BAD);
        Twins.refused(1, "no kind", none, x -> x.kind(0), Checks.BAD);
        Twins.refused(1, "none to take as", none, x -> x.as(0, 0), Checks.BAD);
        Twins.refused(1, "none to ask", none, x -> x.ask(0, 0), Checks.BAD);
        Twins.refused(1, "no minutes go by", none, x -> x.waits(1), Checks.STATE);
        Twins.refused(1, "no cock", none, x -> x.bribe(1), Checks.STATE);
        Twins.refused(1, "no act", none, x -> x.undo(), Checks.STATE);
        Twins.refused(1, "no last", none, x -> x.last(0), Checks.STATE);
        Twins.refused(1, "nowhere", none, x -> x.where(0, 0, 0, 0), Checks.STATE);
        Twins.refused(1, "nothing to keep", none, x -> x.image(0), Checks.STATE);
        Twins.refused(1, "no image 0", none, x -> x.restore(0), Checks.STATE);
        Twins.refused(1, "no image 1", none, x -> x.restore(1), Checks.STATE);
    }

    private static void noRows() {
        for (int r = 0; r < 8; r++) {
            int row = r;
            Twins.refused(2, "row " + row + " is missing at first", Stages::nothing, x -> x.set(row, 0, 0), Checks.NULL);
        }
        BirchLeaf x = new BirchLeaf();
        Checks.due(8, "0 before a fault", x.fault(), 0);
        Checks.due(29, "0: there was none", x.status(), 0);
        Checks.due(27, "no trace", x.trace(0), Checks.NONE);
    }

    private static void rowRefused() {
        Twins.Ahead much = Stages::taped;
        Twins.refused(2, "row below 0", much, x -> x.row(-1, 0, 1), Checks.BAD);
        Twins.refused(2, "row 8", much, x -> x.row(8, 0, 1), Checks.BAD);
        Twins.refused(2, "row far below", much, x -> x.row(LEAST, 0, 1), Checks.BAD);
        Twins.refused(2, "row far above", much, x -> x.row(GREATEST, 0, 1), Checks.BAD);
        Twins.refused(2, "lane below 0", much, x -> x.row(0, -1, 1), Checks.BAD);
        Twins.refused(2, "lane 3", much, x -> x.row(0, 3, 1), Checks.BAD);
        Twins.refused(2, "lane 4", much, x -> x.row(0, 4, 1), Checks.BAD);
        Twins.refused(2, "lane far above", much, x -> x.row(0, GREATEST, 1), Checks.BAD);
        Twins.refused(2, "lane far below", much, x -> x.row(0, LEAST, 1), Checks.BAD);
        Twins.refused(2, "lane 3 of a missing row", much, x -> x.row(4, 3, 1), Checks.BAD);
        Twins.refused(2, "41 items", much, x -> x.row(0, 1, 41), Checks.BAD);
        Twins.refused(2, "41 items of a missing row", much, x -> x.row(4, 1, 41), Checks.BAD);
        Twins.refused(2, "items far above", much, x -> x.row(0, 1, GREATEST), Checks.BAD);
        Twins.refused(2, "fewer than none", much, x -> x.row(0, 1, -1), Checks.SIZE);
        Twins.refused(2, "fewer than none of a missing row", much, x -> x.row(4, 1, -1), Checks.SIZE);
        Twins.refused(2, "far fewer", much, x -> x.row(0, 1, LEAST), Checks.SIZE);
        Twins.refused(2, "BAD row ahead of SIZE", much, x -> x.row(-1, 0, -1), Checks.BAD);
        Twins.refused(2, "BAD row 8 ahead of SIZE", much, x -> x.row(8, 0, -1), Checks.BAD);
        Twins.refused(2, "BAD lane ahead of SIZE", much, x -> x.row(0, -1, -1), Checks.BAD);
        Twins.refused(2, "BAD lane 3 ahead of SIZE", much, x -> x.row(0, 3, -1), Checks.BAD);
    }

    private static void rowSizes() {
        for (int n = 0; n <= 40; n++) {
            for (int lane = 0; lane < 3; lane++) {
                BirchLeaf x = new BirchLeaf();
                int row = (n + lane) % 8;
                Checks.due(2, "a row of " + n, x.row(row, lane, n), n);
                Checks.due(2, "one row", x.count(0), 1);
                Checks.due(2, "behind " + n, x.set(row, n, 1), Checks.PLACE);
                if (n > 0) {
                    Checks.due(2, "the last of " + n, x.set(row, n - 1, 1), 1);
                    Checks.due(2, "lane " + lane, x.set(row, 0, 0x10203), new int[] {3, 0x203, 0x10203}[lane]);
                }
                Checks.due(5, "it had " + n, x.drop(row), n);
            }
        }
        BirchLeaf x = new BirchLeaf();
        for (int row = 0; row < 8; row++) {
            Checks.due(2, "row " + row, x.row(row, 0, row), row);
            Checks.due(28, "rows", x.count(0), row + 1);
        }
        Checks.due(2, "in its place", x.row(3, 2, 9), 9);
        Checks.due(28, "as many", x.count(0), 8);
    }

    private static void full(BirchLeaf x, int row, int lane) {
        x.row(row, lane, 40);
        for (int i = 0; i < 40; i++) {
            x.set(row, i, 1 + i % 5);
        }
    }

    private static void zeros(String what, BirchLeaf x, int row, int lane) {
        int[] items = Shown.items(x, row, lane, 40);
        for (int i = 0; i < 40; i++) {
            Checks.due(2, what + ", item " + i + " of lane " + lane, items[i], 0);
        }
    }

    /** 0 at first: whatever was there. */
    private static void rowAnew() {
        for (int lane = 0; lane < 3; lane++) {
            BirchLeaf x = new BirchLeaf();
            x.row(2, lane, 40);
            zeros("new", x, 2, lane);
            BirchLeaf again = new BirchLeaf();
            full(again, 2, lane);
            again.row(2, lane, 40);
            zeros("made again", again, 2, lane);
            BirchLeaf grown = new BirchLeaf();
            full(grown, 2, (lane + 1) % 3);
            grown.row(2, lane, 0);
            grown.row(2, lane, 40);
            zeros("grown from none", grown, 2, lane);
            BirchLeaf dropped = new BirchLeaf();
            full(dropped, 2, lane);
            dropped.drop(2);
            dropped.row(2, lane, 40);
            zeros("made behind a drop", dropped, 2, lane);
            BirchLeaf found = new BirchLeaf();
            full(found, 2, lane);
            found.row(2, lane, 3);
            Checks.due(2, "fewer items", found.set(2, 3, 0), Checks.PLACE);
            Checks.due(2, "no more of them come", found.copy(2, 0, 2, 0, 4), Checks.PLACE);
        }
    }

    /** One that is made, set or dropped leaves its neighbours. */
    private static void rowAlone() {
        for (int way = 0; way < 3; way++) {
            BirchLeaf x = new BirchLeaf();
            full(x, 0, 0);
            full(x, 1, 0);
            full(x, 2, 0);
            x.row(3, 0, 40);
            x.copy(2, 0, 3, 0, 40);
            if (way == 0) {
                x.row(1, 2, 40);
            } else if (way == 1) {
                x.drop(1);
            } else {
                x.set(1, 0, 0);
                x.set(1, 39, 0);
            }
            int[] ahead = Shown.items(x, 0, 0, 40);
            Checks.due(2, "the last of the row ahead", ahead[39], 5);
            Checks.due(2, "the first of the row behind", x.copy(2, 0, 7, 0, 1) == 1 ? x.where(7, 0, 1, 60) : 0, 2);
        }
    }

    private static void setRefused() {
        Twins.Ahead much = Stages::taped;
        Twins.refused(3, "row below 0", much, x -> x.set(-1, 0, 5), Checks.BAD);
        Twins.refused(3, "row 8", much, x -> x.set(8, 0, 5), Checks.BAD);
        Twins.refused(3, "BAD ahead of PLACE", much, x -> x.set(8, -1, 5), Checks.BAD);
        Twins.refused(3, "far row", much, x -> x.set(GREATEST, 0, 5), Checks.BAD);
        Twins.refused(3, "far row below", much, x -> x.set(LEAST, 0, 5), Checks.BAD);
        Twins.refused(3, "missing", much, x -> x.set(4, 0, 5), Checks.NULL);
        Twins.refused(3, "NULL ahead of PLACE", much, x -> x.set(7, -1, 5), Checks.NULL);
        Twins.refused(3, "place below 0", much, x -> x.set(0, -1, 5), Checks.PLACE);
        Twins.refused(3, "place below 0 of row 1", much, x -> x.set(1, -1, 5), Checks.PLACE);
        Twins.refused(3, "place 3 of 3", much, x -> x.set(0, 3, 5), Checks.PLACE);
        Twins.refused(3, "place 2 of 2", much, x -> x.set(2, 2, 5), Checks.PLACE);
        Twins.refused(3, "place 0 of none", much, x -> x.set(3, 0, 5), Checks.PLACE);
        Twins.refused(3, "place 40", much, x -> x.set(0, 40, 5), Checks.PLACE);
        Twins.refused(3, "far place", much, x -> x.set(0, GREATEST, 5), Checks.PLACE);
        Twins.refused(3, "far place below", much, x -> x.set(0, LEAST, 5), Checks.PLACE);
    }

    private static void bits(int lane, int v, int is) {
        BirchLeaf x = new BirchLeaf();
        x.row(0, lane, 1);
        Checks.due(3, v + " in lane " + lane, x.set(0, 0, v), is);
        Checks.due(29, "no finding", x.status(), 0);
    }

    private static void setBits() {
        int[][] ends = {{127, -128, 256}, {32767, -32768, 65536}};
        for (int lane = 0; lane < 2; lane++) {
            int most = ends[lane][0];
            int least = ends[lane][1];
            int span = ends[lane][2];
            bits(lane, most, most);
            bits(lane, most + 1, least);
            bits(lane, least, least);
            bits(lane, least - 1, most);
            bits(lane, span - 1, -1);
            bits(lane, span, 0);
            bits(lane, span + 1, 1);
            bits(lane, -span, 0);
            bits(lane, -span - 1, -1);
            bits(lane, GREATEST, -1);
            bits(lane, LEAST, 0);
        }
        bits(2, GREATEST, GREATEST);
        bits(2, LEAST, LEAST);
        bits(2, -1, -1);
        bits(2, Checks.NULL, Checks.NULL);
        bits(2, Checks.BAD, Checks.BAD);
        int[] above = {256, 65536};
        for (int lane = 0; lane < 2; lane++) {
            BirchLeaf x = new BirchLeaf();
            x.row(0, lane, 2);
            x.set(0, 0, above[lane] + 3);
            x.set(0, 1, 4 - above[lane]);
            int[] items = Shown.items(x, 0, lane, 2);
            Checks.due(3, "it stands so in lane " + lane, items[0], 3);
            Checks.due(3, "and from below", items[1], 4);
        }
    }

    private static void setPlaces() {
        for (int i = 0; i < 40; i++) {
            BirchLeaf x = new BirchLeaf();
            x.row(0, 0, 40);
            Checks.due(3, "place " + i, x.set(0, i, 5), 5);
            int[] items = Shown.items(x, 0, 0, 40);
            int sum = 0;
            for (int item : items) {
                sum += item;
            }
            Checks.due(3, "stands at " + i, items[i], 5);
            Checks.due(3, "and nowhere else", sum, 5);
        }
    }

    private static void copyRefused() {
        Twins.Ahead much = Stages::takenTaped;
        Twins.refused(4, "a below 0", much, x -> x.copy(-1, 0, 0, 0, 1), Checks.BAD);
        Twins.refused(4, "a 8", much, x -> x.copy(8, 0, 0, 0, 1), Checks.BAD);
        Twins.refused(4, "b below 0", much, x -> x.copy(0, 0, -1, 0, 1), Checks.BAD);
        Twins.refused(4, "b 8", much, x -> x.copy(0, 0, 8, 0, 1), Checks.BAD);
        Twins.refused(4, "a far", much, x -> x.copy(GREATEST, 0, 0, 0, 1), Checks.BAD);
        Twins.refused(4, "b far", much, x -> x.copy(0, 0, LEAST, 0, 1), Checks.BAD);
        Twins.refused(4, "b BAD ahead of a missing", much, x -> x.copy(4, 0, 8, 0, 1), Checks.BAD);
        Twins.refused(4, "a BAD ahead of b missing", much, x -> x.copy(-1, 0, 4, 0, 1), Checks.BAD);
        Twins.refused(4, "BAD ahead of PLACE", much, x -> x.copy(0, -1, 8, -1, -1), Checks.BAD);
        Twins.refused(4, "a missing", much, x -> x.copy(4, 0, 0, 0, 1), Checks.NULL);
        Twins.refused(4, "b missing", much, x -> x.copy(0, 0, 4, 0, 1), Checks.NULL);
        Twins.refused(4, "b missing, of another lane than any", much, x -> x.copy(2, 0, 7, 0, 1), Checks.NULL);
        Twins.refused(4, "both missing", much, x -> x.copy(4, 0, 5, 0, 1), Checks.NULL);
        Twins.refused(4, "missing onto itself", much, x -> x.copy(4, 0, 4, 0, 0), Checks.NULL);
        Twins.refused(4, "NULL ahead of PLACE", much, x -> x.copy(0, -1, 4, -1, -1), Checks.NULL);
        Twins.refused(4, "NULL of a ahead of PLACE", much, x -> x.copy(4, -1, 0, -1, -1), Checks.NULL);
    }

    private static void copyFindings() {
        Twins.Ahead much = Stages::takenTaped;
        int[][] lanes = {{0, 1}, {1, 0}, {0, 2}, {2, 0}, {1, 2}, {2, 1}, {3, 1}, {2, 3}};
        for (int[] two : lanes) {
            String what = two[0] + " to " + two[1];
            Twins.refused(4, "two lanes " + what, much, x -> x.copy(two[0], 0, two[1], 0, 1), Checks.STORE);
            Twins.refused(4, "none of two lanes " + what, much, x -> x.copy(two[0], 0, two[1], 0, 0), Checks.STORE);
            Twins.refused(4, "STORE ahead of i " + what, much, x -> x.copy(two[0], -1, two[1], 0, 1), Checks.STORE);
            Twins.refused(4, "STORE ahead of j " + what, much, x -> x.copy(two[0], 0, two[1], -1, 1), Checks.STORE);
            Twins.refused(4, "STORE ahead of n " + what, much, x -> x.copy(two[0], 0, two[1], 0, -1), Checks.STORE);
            Twins.refused(4, "STORE ahead of an end " + what, much, x -> x.copy(two[0], 0, two[1], 0, 41), Checks.STORE);
        }
    }

    /** Rows 4 and 5 of five and three items, bytes; then what as() finds. */
    private static void pair(BirchLeaf x) {
        Stages.takenTaped(x);
        Stages.fill(x, 4, 0, 1, 2, 3, 4, 5);
        Stages.fill(x, 5, 0, 5, 0, 1);
        x.as(0, 5);
    }

    private static void place(String what, int a, int i, int b, int j, int n) {
        Twins.refused(4, what, RowBounds::pair, x -> x.copy(a, i, b, j, n), Checks.PLACE);
    }

    private static void copyPlaces() {
        place("i below 0", 4, -1, 5, 0, 1);
        place("i below 0, none", 4, -1, 5, 0, 0);
        place("j below 0", 4, 0, 5, -1, 1);
        place("j below 0, none", 4, 0, 5, -1, 0);
        place("n below 0", 4, 1, 5, 1, -1);
        place("one beyond a's end", 5, 1, 4, 0, 3);
        place("all but one beyond a's end", 5, 3, 4, 0, 1);
        place("one beyond b's end", 4, 0, 5, 1, 3);
        place("all beyond b's end", 4, 0, 5, 3, 1);
        place("none from beyond a's end", 5, 4, 4, 0, 0);
        place("none to beyond b's end", 4, 0, 5, 4, 0);
        place("onto itself beyond the end", 4, 0, 4, 1, 5);
        place("from itself beyond the end", 4, 1, 4, 0, 5);
        place("from none", 3, 0, 4, 0, 1);
        place("to none", 4, 0, 3, 0, 1);
        place("i far", 4, GREATEST, 5, 0, 1);
        place("i far, n far", 4, GREATEST, 5, 0, GREATEST);
        place("j far", 4, 0, 5, GREATEST, 1);
        place("j far, n far", 4, 0, 5, GREATEST, GREATEST);
        place("n far", 4, 1, 5, 1, GREATEST);
        place("n far below", 4, 1, 5, 1, LEAST);
        place("i far below", 4, LEAST, 5, 1, 1);
        place("j far below", 4, 1, 5, LEAST, 1);
        place("all far below", 4, LEAST, 5, LEAST, LEAST);
    }

    private static void copied(String what, int a, int i, int b, int j, int n, int... due) {
        BirchLeaf x = new BirchLeaf();
        pair(x);
        Checks.due(29, "a finding ahead", x.status(), 3);
        Checks.due(4, what, x.copy(a, i, b, j, n), n);
        Checks.due(29, "none of " + what, x.status(), 0);
        int[] items = Shown.items(x, b, 0, due.length);
        for (int k = 0; k < due.length; k++) {
            Checks.due(4, what + ", item " + k, items[k], due[k]);
        }
        if (a != b && a != 3) {
            int[] from = Shown.items(x, a, 0, a == 4 ? 5 : 3);
            int[] was = a == 4 ? new int[] {1, 2, 3, 4, 5} : new int[] {5, 0, 1};
            for (int k = 0; k < was.length; k++) {
                Checks.due(4, what + " leaves item " + k, from[k], was[k]);
            }
        }
    }

    private static void copyEnds() {
        copied("all of b", 4, 0, 5, 0, 3, 1, 2, 3);
        copied("to a's end", 4, 2, 5, 0, 3, 3, 4, 5);
        copied("all of a, to b's end", 5, 0, 4, 2, 3, 1, 2, 5, 0, 1);
        copied("one, the last to the last", 4, 4, 5, 2, 1, 5, 0, 5);
        copied("one, the first to the first", 4, 0, 5, 0, 1, 1, 0, 1);
        copied("none at the ends", 4, 5, 5, 3, 0, 5, 0, 1);
        copied("none at the beginnings", 4, 0, 5, 0, 0, 5, 0, 1);
        copied("none to a row of none", 4, 5, 3, 0, 0);
        copied("none from a row of none", 3, 0, 5, 3, 0, 5, 0, 1);
    }

    private static void copyOntoItself() {
        copied("up by one", 4, 0, 4, 1, 4, 1, 1, 2, 3, 4);
        copied("up by three", 4, 0, 4, 3, 2, 1, 2, 3, 1, 2);
        copied("down by one", 4, 1, 4, 0, 4, 2, 3, 4, 5, 5);
        copied("down by three", 4, 3, 4, 0, 2, 4, 5, 3, 4, 5);
        copied("where it is", 4, 0, 4, 0, 5, 1, 2, 3, 4, 5);
        for (int lane = 0; lane < 3; lane++) {
            BirchLeaf x = new BirchLeaf();
            full(x, 0, lane);
            x.row(1, lane, 40);
            Checks.due(4, "all of 40", x.copy(0, 0, 1, 0, 40), 40);
            Checks.due(4, "39 up", x.copy(1, 0, 1, 1, 39), 39);
            int[] items = Shown.items(x, 1, lane, 40);
            for (int i = 0; i < 40; i++) {
                Checks.due(4, "as they were ahead, item " + i, items[i], i == 0 ? 1 : 1 + (i - 1) % 5);
            }
        }
    }

    private static void dropRefused() {
        Twins.Ahead much = Stages::taped;
        Twins.refused(5, "row below 0", much, x -> x.drop(-1), Checks.BAD);
        Twins.refused(5, "row 8", much, x -> x.drop(8), Checks.BAD);
        Twins.refused(5, "row far", much, x -> x.drop(GREATEST), Checks.BAD);
        Twins.refused(5, "row far below", much, x -> x.drop(LEAST), Checks.BAD);
        Twins.refused(5, "missing", much, x -> x.drop(4), Checks.NULL);
        Twins.refused(5, "missing, the last", much, x -> x.drop(7), Checks.NULL);
        Twins.refused(5, "missing behind a drop", x -> {
            Stages.taped(x);
            x.drop(0);
        }, x -> x.drop(0), Checks.NULL);
    }

    private static void drops() {
        BirchLeaf x = new BirchLeaf();
        for (int row = 0; row < 8; row++) {
            x.row(row, row % 3, 5 * row);
        }
        for (int row = 7; row >= 0; row--) {
            Checks.due(5, "it had", x.drop(row), 5 * row);
            Checks.due(28, "rows left", x.count(0), row);
            Checks.due(5, "missing for set", x.set(row, 0, 0), Checks.NULL);
            Checks.due(5, "missing for copy", x.copy(row, 0, row, 0, 0), Checks.NULL);
        }
        BirchLeaf y = Hills.with(Hills.TWO);
        y.row(0, 0, 2);
        y.drop(0);
        Checks.due(5, "missing for where", y.where(0, 0, 0, 0), Checks.NULL);
    }

    private static void found(BirchLeaf x) {
        x.as(0, 5);
        Checks.due(29, "KIND ahead", x.status(), 3);
    }

    /** Of each call with a row: without a finding 0, with one its number, refused what it was. */
    private static void statusOfRows() {
        BirchLeaf x = Hills.with(Hills.TWO);
        x.row(0, 0, 2);
        x.row(1, 1, 2);
        Twins.Call[] without = {y -> y.row(3, 0, 0), y -> y.set(0, 1, 7), y -> y.copy(0, 0, 0, 1, 1),
            y -> y.drop(3), y -> y.where(0, 0, 0, 0), y -> y.as(1, 4)};
        for (int call = 0; call < without.length; call++) {
            found(x);
            Checks.due(29, "call " + call + " without a finding", without[call].on(x) >= 0 ? 0 : 1, 0);
            Checks.due(29, "0 behind it", x.status(), 0);
        }
        Twins.Call[] with = {y -> y.row(3, 0, -1), y -> y.set(0, 2, 7), y -> y.set(3, 0, 7), y -> y.copy(0, 0, 0, 1, 2),
            y -> y.copy(0, 0, 1, 0, 1), y -> y.copy(0, 0, 3, 0, 1), y -> y.drop(3), y -> y.where(0, 0, 2, 0),
            y -> y.where(3, 0, 0, 0), y -> y.as(1, 1)};
        int[] numbers = {4, 2, 1, 2, 5, 1, 1, 2, 1, 3};
        for (int call = 0; call < with.length; call++) {
            x.set(0, 0, 0);
            Checks.due(29, "call " + call + " with one", with[call].on(x), -1000010 - numbers[call]);
            Checks.due(29, "its number", x.status(), numbers[call]);
        }
        Twins.Call[] refused = {y -> y.row(8, 0, 0), y -> y.row(0, 3, 0), y -> y.row(0, 0, 41), y -> y.set(8, 0, 0),
            y -> y.copy(8, 0, 0, 0, 0), y -> y.copy(0, 0, 8, 0, 0), y -> y.drop(8), y -> y.where(8, 0, 0, 0),
            y -> y.where(0, 0, 11, 0), y -> y.where(0, 0, 0, 61), y -> y.as(2, 0), y -> y.as(0, 6)};
        for (int call = 0; call < refused.length; call++) {
            found(x);
            Checks.due(29, "call " + call + " refused", refused[call].on(x), Checks.BAD);
            Checks.due(29, "left", x.status(), 3);
            x.set(0, 0, 0);
            refused[call].on(x);
            Checks.due(29, "0 left", x.status(), 0);
        }
    }

    /** Calls with no row leave it, whatever they answer. */
    private static void statusOfOthers() {
        Twins.only(29, "told", Stages::taped, x -> x.status(), 5);
        Twins.only(29, "told without a hill", Stages::bare, x -> x.status(), 5);
        Twins.only(29, "0 told", Stages::first, x -> x.status(), 0);
        BirchLeaf x = Hills.with(Hills.TWO);
        found(x);
        Twins.Call[] others = {y -> y.feed(32, 1), y -> y.feed(32, 0), y -> y.hill(), y -> y.fault(), y -> y.pass(1),
            y -> y.pass(1), y -> y.pass(2), y -> y.waits(1), y -> y.waits(0), y -> y.waits(60), y -> y.bribe(9),
            y -> y.bribe(0), y -> y.undo(), y -> y.trader(0, 0), y -> y.trader(9, 0), y -> y.takes(0, 0),
            y -> y.takes(0, 61), y -> y.there(0, 1, 0), y -> y.there(0, 0, 0), y -> y.worth(0, 0), y -> y.worth(0, 61),
            y -> y.sure(0, 0), y -> y.sure(0, 61), y -> y.most(0, 0, 0), y -> y.most(0, 0, 2), y -> y.last(0),
            y -> y.last(2), y -> y.crow(0), y -> y.crow(2), y -> y.image(0), y -> y.image(2), y -> y.restore(0),
            y -> y.restore(1), y -> y.restore(2), y -> y.kind(0), y -> y.kind(2), y -> y.ask(0, 0), y -> y.ask(0, 2),
            y -> y.trace(0), y -> y.trace(16), y -> y.count(0), y -> y.count(8), y -> y.status()};
        for (int call = 0; call < others.length; call++) {
            others[call].on(x);
            Checks.due(29, "left by other " + call, x.status(), 3);
        }
        Hills.read(x, Hills.ALONE);
        Checks.due(29, "left by a hill that is read", x.status(), 3);
        BirchLeaf none = new BirchLeaf();
        none.set(0, 0, 0);
        none.where(0, 0, 0, 0);
        Checks.due(29, "STATE leaves it", none.status(), 1);
    }
}
