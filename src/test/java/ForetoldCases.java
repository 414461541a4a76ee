/** Promises 16 to 21: what is foretold. */
final class ForetoldCases {
    private ForetoldCases() {
    }

    static void run() {
        worth();
        sure();
        most();
        fewest();
        last();
        lastFirst();
        crow();
        where();
        whereOnTheWay();
        whereRefused();
        nothingChanges();
    }

    private static void refused(int promise, BirchLeaf x, int trader, int t) {
        long got = promise == 16 ? x.worth(trader, t) : promise == 17 ? x.sure(trader, t) : x.most(trader, t, 0);
        Checks.due(promise, "of " + trader + " in " + t, got, Checks.BAD);
    }

    private static void refusals(int promise) {
        BirchLeaf x = Hills.with(Hills.ROUND);
        refused(promise, x, 4, 0);
        refused(promise, x, -1, 0);
        refused(promise, x, 0, -1);
        refused(promise, x, 0, 61);
        refused(promise, new BirchLeaf(), 0, 0);
    }

    private static void worth() {
        BirchLeaf x = Hills.with(Hills.ROUND);
        Checks.due(16, "the miller's half", x.worth(0, 0), 15);
        Checks.due(16, "in 9", x.worth(0, 9), 15);
        Checks.due(16, "the miller's till is by", x.worth(0, 16), 12);
        Checks.due(16, "the priest", x.worth(0, 22), 7);
        Checks.due(16, "the last minute for him", x.worth(0, 25), 7);
        Checks.due(16, "dawn", x.worth(0, 26), 0);
        Checks.due(16, "in 60", x.worth(0, 60), 0);
        x.pass(1);
        x.pass(0);
        Checks.due(16, "of a minute that is by", x.worth(0, 0), 15);
        BirchLeaf y = Hills.with("night 60 0;trader priest 1 0;trader blind 9 0;way 0 1 3 0;");
        Checks.due(16, "later than at once", y.worth(0, 0), 9);
        Checks.due(16, "the last even minute", y.worth(0, 55), 9);
        Checks.due(16, "none", y.worth(0, 56), 0);
        refusals(16);
    }

    /** Nobody is SURE of anything: the last one to take it would be paid in birch, so nobody is the last. */
    private static void sure() {
        for (String hill : new String[] {Hills.FIVE, Hills.ROUND, Hills.TWO, Hills.ALONE,
                "night 60 0;trader priest 5 0;trader priest 0 0;trader miller 1 60;way 0 1 1 0;way 1 2 1 0;"}) {
            BirchLeaf x = Hills.with(hill);
            for (int trader = 0; trader < x.count(1); trader++) {
                for (int t = 0; t <= 60; t += 7) {
                    Checks.due(17, "of " + trader + " in " + t, x.sure(trader, t), 0);
                }
            }
        }
        BirchLeaf x = Hills.with(Hills.ROUND);
        x.most(0, 0, 0);
        Checks.due(17, "behind most", x.sure(0, 0), 0);
        refusals(17);
    }

    private static void most() {
        BirchLeaf x = Hills.with(Hills.TWO);
        Checks.due(18, "so often", x.most(0, 0, 1), 14);
        Checks.due(18, "14 times, from 0", x.most(0, 0, 0), 7 * 30);
        Checks.due(18, "in 51", x.most(0, 51, 0), 30);
        Checks.due(18, "twice", x.most(0, 51, 1), 2);
        Checks.due(18, "in 55, once", x.most(0, 55, 0), 20);
        Checks.due(18, "once", x.most(0, 55, 1), 1);
        Checks.due(18, "in 56", x.most(0, 56, 0), 0);
        Checks.due(18, "no time", x.most(0, 56, 1), 0);
        Checks.due(18, "in 60", x.most(1, 60, 0), 0);
        Checks.due(18, "of the other one, in 55", x.most(1, 55, 0), 10);
        BirchLeaf y = Hills.with("night 60 60;trader priest 99 0;trader priest 99 0;way 0 1 1 0;");
        Checks.due(18, "the greatest of all", y.most(0, 0, 0), 59 * 99);
        Checks.due(18, "59 times", y.most(0, 0, 1), 59);
        waited();
        Checks.due(18, "what 2", x.most(0, 0, 2), Checks.BAD);
        Checks.due(18, "what -1", x.most(0, 0, -1), Checks.BAD);
        refusals(18);
    }

    /** The blind one takes it in even minutes alone, so each who passes it to him may have to wait. */
    private static void waited() {
        BirchLeaf x = Hills.with("night 16 0;trader blind 4 0;trader priest 3 0;way 0 1 3 0;");
        Checks.due(18, "of 1 in 0, waiting once", x.most(1, 0, 0), 2 * 4 + 2 * 3);
        Checks.due(18, "four times", x.most(1, 0, 1), 4);
        Checks.due(18, "of 1 in 1, at once", x.most(1, 1, 0), 2 * 4 + 2 * 3);
        Checks.due(18, "of 1 in 4, too late for one", x.most(1, 4, 0), 2 * 4 + 3);
        Checks.due(18, "of 0 in 0", x.most(0, 0, 0), 2 * 4 + 3 * 3);
        Checks.due(18, "of 1 in 12", x.most(1, 12, 0), 0);
        Checks.due(18, "of 1 in 10, waiting", x.most(1, 10, 0), 4);
        BirchLeaf six = Hills.with("night 60 60;trader priest 1 0;trader priest 2 0;trader priest 3 0;"
                + "trader priest 4 0;trader priest 5 0;trader blind 50 0;"
                + "way 0 1 1 0;way 1 2 1 0;way 2 3 1 0;way 3 4 1 0;way 4 5 2 0;");
        Checks.due(18, "six of them", six.most(0, 50, 0), 2 + 3 + 4 + 5 + 50 + 5 + 4);
        Checks.due(18, "so often", six.most(0, 50, 1), 7);
        Checks.due(16, "the sixth's", six.worth(4, 0), 50);
        Checks.due(19, "the sixth", six.last(0), 5);
        Checks.due(19, "since", six.last(1), 58);
        Checks.due(20, "the sixth", six.crow(5), 7);
        Checks.due(21, "all six", six.where(0, 0, 0, 6), Checks.NULL);
        six.row(0, 0, 0);
        Checks.due(21, "all six in 6", six.where(0, 0, 0, 6), 63);
        Checks.due(21, "five in 5", six.where(0, 0, 0, 5), 31);
        Checks.due(21, "two in 1", six.where(0, 0, 0, 1), 3);
        Hills.read(six, Hills.ALONE);
        Checks.due(21, "one in 1, on another hill", six.where(0, 0, 0, 1), 1);
    }

    private static void fewest() {
        BirchLeaf x = Hills.with("night 20 0;trader baker 0 0;trader baker 0 2;trader baker 9 10;"
                + "way 0 1 1 0;way 1 2 1 0;way 0 2 10 0;");
        Checks.due(18, "9 once", x.most(0, 0, 0), 9);
        Checks.due(18, "not over the other one", x.most(0, 0, 1), 1);
        Checks.due(18, "too late for that", x.most(0, 1, 0), 9);
        Checks.due(18, "over the other one, for nothing", x.most(0, 1, 1), 2);
        Checks.due(18, "and back to the same", x.most(2, 0, 1), 2);
        Checks.due(18, "no sum", x.most(0, 2, 0), 0);
        Checks.due(18, "no sum, no time", x.most(0, 2, 1), 0);
        Checks.due(18, "nobody takes it any more", x.most(2, 2, 1), 0);
    }

    private static void last() {
        BirchLeaf x = Hills.with(Hills.ROUND);
        Checks.due(19, "who", x.last(0), 0);
        Checks.due(19, "since", x.last(1), 27);
        x.pass(1);
        x.pass(2);
        Checks.due(19, "who, from 2", x.last(0), 3);
        Checks.due(19, "since, from 2", x.last(1), 26);
        x.waits(50);
        Checks.due(19, "nobody passes it", x.last(0), 2);
        Checks.due(19, "as it is now", x.last(1), 55);
        Checks.due(19, "what 2", x.last(2), Checks.BAD);
        Checks.due(19, "what -1", x.last(-1), Checks.BAD);
        Checks.due(19, "no hill", new BirchLeaf().last(0), Checks.STATE);
        Checks.due(19, "no hill ahead of BAD", new BirchLeaf().last(5), Checks.STATE);
        BirchLeaf y = Hills.with("night 8 0;trader priest 1 0;trader blind 9 0;way 0 1 3 0;");
        Checks.due(19, "he can't at once, so he keeps it", y.last(0), 0);
        Checks.due(19, "since 0", y.last(1), 0);
        y.waits(1);
        Checks.due(19, "he can now, and so on", y.last(0), 0);
        Checks.due(19, "to 7", y.last(1), 7);
    }

    private static void lastFirst() {
        BirchLeaf x = Hills.with("night 4 0;trader priest 1 0;trader priest 5 0;trader priest 9 0;"
                + "trader priest 9 0;way 0 1 1 0;way 0 2 3 0;way 0 3 2 0;");
        Checks.due(19, "the first of the greatest", x.last(0), 2);
        Checks.due(19, "there", x.last(1), 3);
        x.bribe(3);
        Checks.due(19, "of those who take it", x.last(0), 3);
        Checks.due(19, "there then", x.last(1), 2);
        x.bribe(2);
        Checks.due(19, "the one that is left", x.last(0), 1);
        x.bribe(1);
        Checks.due(19, "none is left", x.last(0), 0);
    }

    private static void crow() {
        BirchLeaf x = Hills.with(Hills.ROUND);
        Checks.due(20, "who has it", x.crow(0), 1);
        Checks.due(20, "1", x.crow(1), 3);
        Checks.due(20, "2", x.crow(2), 6);
        Checks.due(20, "3", x.crow(3), 8);
        Checks.due(20, "dawn stays", x.count(5), 30);
        x.bribe(2);
        Checks.due(20, "of every dawn", x.crow(3), 8);
        x.pass(0);
        x.waits(2);
        Checks.due(20, "from now on", x.crow(1), 5);
        Checks.due(20, "trader 4", x.crow(4), Checks.BAD);
        Checks.due(20, "trader -1", x.crow(-1), Checks.BAD);
        Checks.due(20, "no hill", new BirchLeaf().crow(0), Checks.BAD);
        BirchLeaf y = Hills.with("night 60 0;trader priest 1 0;trader priest 9 0;trader knower 5 60;"
                + "way 0 1 30 0;way 0 2 30 0;");
        Checks.due(20, "in 30", y.crow(1), 31);
        Checks.due(20, "never", y.crow(2), Checks.NONE);
        y.waits(30);
        Checks.due(20, "60 is too late", y.crow(1), Checks.NONE);
        y.undo();
        y.waits(29);
        Checks.due(20, "59 is not", y.crow(1), 60);
    }

    private static void seen(BirchLeaf x, int... items) {
        x.row(0, 1, items.length);
        for (int i = 0; i < items.length; i++) {
            x.set(0, i, items[i]);
        }
    }

    private static void where() {
        BirchLeaf x = Hills.with(Hills.ROUND);
        seen(x, 2, 8, 3, 14);
        Checks.due(21, "in 0", x.where(0, 0, 0, 0), 1);
        Checks.due(21, "in 2", x.where(0, 0, 0, 2), 3);
        Checks.due(21, "in 4", x.where(0, 0, 0, 4), 11);
        Checks.due(21, "in 8", x.where(0, 0, 0, 8), 15);
        Checks.due(21, "ahead of 8", x.where(0, 0, 1, 5), 14);
        Checks.due(21, "as told", x.where(0, 0, 1, 8), 4);
        Checks.due(21, "passed in 8", x.where(0, 0, 1, 10), 12);
        Checks.due(21, "not on the way in 14", x.where(0, 0, 2, 13), 8);
        Checks.due(21, "in 60", x.where(0, 0, 2, 60), 15);
        Checks.due(21, "the second pair alone", x.where(0, 2, 1, 8), 15);
        x.pass(1);
        Checks.due(21, "what was done is no matter", x.where(0, 0, 0, 0), 1);
        x.bribe(3);
        Checks.due(21, "dawn is", x.where(0, 0, 0, 60), 3);
        seen(x, 2, 8, 2, 8, 2, 9);
        Checks.due(21, "with one whom it can't have come to", x.where(0, 0, 3, 8), 0);
        x.undo();
        Checks.due(21, "told twice", x.where(0, 0, 3, 9), 4);
        seen(x, 0, 9, 1, 9);
        Checks.due(21, "with two at once", x.where(0, 0, 2, 3), 0);
        seen(x, 1, 0);
        Checks.due(21, "not with 0 in 0", x.where(0, 0, 1, 0), 0);
    }

    private static void whereOnTheWay() {
        BirchLeaf x = Hills.with("night 60 0;trader priest 1 0;trader baker 1 5;trader priest 1 0;"
                + "way 0 1 5 0;way 1 2 4 0;");
        seen(x, 1, 5, 2, 9);
        Checks.due(21, "in 1", x.where(0, 0, 1, 1), 0);
        Checks.due(21, "in 0", x.where(0, 0, 1, 0), 1);
        Checks.due(21, "in 5", x.where(0, 0, 2, 5), 2);
        Checks.due(21, "in 6", x.where(0, 0, 2, 6), 0);
        Checks.due(21, "in 8", x.where(0, 0, 2, 8), 0);
        Checks.due(21, "in 9", x.where(0, 0, 2, 9), 4);
        Checks.due(21, "without the second", x.where(0, 0, 1, 6), 2);
        seen(x, 1, 5, 2, 8);
        Checks.due(21, "too soon", x.where(0, 0, 2, 60), 0);
        seen(x, 0, 3, 1, 5);
        Checks.due(21, "it was on the way in 3", x.where(0, 0, 2, 60), 0);
        seen(x, 0, 3);
        Checks.due(21, "so it did not come to 1", x.where(0, 0, 1, 60), 1);
        seen(x, 1, 5, 0, 10);
        Checks.due(21, "back", x.where(0, 0, 2, 60), 1);
        Checks.due(21, "with him till 5", x.where(0, 0, 2, 5), 2);
        seen(x, 1, 5, 0, 9);
        Checks.due(21, "not back so soon", x.where(0, 0, 2, 60), 0);
        // It is with him yet in the minute in which he passes it.
        seen(x, 1, 7, 2, 11);
        Checks.due(21, "passed in 7", x.where(0, 0, 2, 60), 4);
    }

    private static void whereRefused() {
        BirchLeaf x = new BirchLeaf();
        seen(x, 0, 1, 7, 61);
        Checks.due(21, "no hill", x.where(0, 0, 0, 0), Checks.STATE);
        Checks.due(21, "no hill ahead of BAD", x.where(9, 0, 11, 61), Checks.STATE);
        Hills.read(x, Hills.ROUND);
        Checks.due(21, "row -1", x.where(-1, 0, 0, 0), Checks.BAD);
        Checks.due(21, "row 8", x.where(8, 0, 0, 0), Checks.BAD);
        Checks.due(21, "n -1", x.where(0, 0, -1, 0), Checks.BAD);
        Checks.due(21, "n 11", x.where(0, 0, 11, 0), Checks.BAD);
        Checks.due(21, "t -1", x.where(0, 0, 0, -1), Checks.BAD);
        Checks.due(21, "t 61", x.where(0, 0, 0, 61), Checks.BAD);
        Checks.due(21, "BAD ahead of NULL", x.where(5, 0, 0, 61), Checks.BAD);
        Checks.due(21, "missing", x.where(5, -1, 0, 0), Checks.NULL);
        Checks.due(29, "NULL", x.status(), 1);
        x.where(5, 0, 0, 61);
        Checks.due(29, "BAD leaves it", x.status(), 1);
        Checks.due(21, "i -1", x.where(0, -1, 0, 0), Checks.PLACE);
        Checks.due(29, "PLACE", x.status(), 2);
        Checks.due(21, "beyond the end", x.where(0, 1, 2, 0), Checks.PLACE);
        Checks.due(21, "i 5", x.where(0, 5, 0, 0), Checks.PLACE);
        Checks.due(21, "i far", x.where(0, Integer.MAX_VALUE, 10, 0), Checks.PLACE);
        Checks.due(21, "at the end", x.where(0, 4, 0, 0), 1);
        Checks.due(29, "none", x.status(), 0);
        x.drop(5);
        Checks.due(21, "a pair that is none", x.where(0, 0, 2, 0), Checks.BAD);
        Checks.due(29, "that leaves it", x.status(), 1);
        Checks.due(21, "half a pair", x.where(0, 2, 1, 0), Checks.BAD);
        badPair(x, 4, 0);
        badPair(x, -1, 0);
        badPair(x, 0, -1);
        badPair(x, 0, 61);
        seen(x, 0, 0, 0, 1, 0, 2, 0, 3, 0, 4, 0, 5, 0, 6, 0, 7, 0, 8, 0, 9);
        Checks.due(21, "ten pairs", x.where(0, 0, 10, 9), 1);
    }

    private static void badPair(BirchLeaf x, int who, int minute) {
        seen(x, 0, 0, who, minute);
        Checks.due(21, "pair " + who + " " + minute, x.where(0, 0, 2, 0), Checks.BAD);
        Checks.due(21, "not read", x.where(0, 0, 1, 0), 1);
    }

    private static void nothingChanges() {
        BirchLeaf x = Hills.with(Hills.ROUND);
        x.pass(1);
        x.bribe(25);
        seen(x, 1, 2);
        for (int again = 0; again < 2; again++) {
            Checks.due(16, "worth", x.worth(1, 2), 15);
            Checks.due(17, "sure", x.sure(1, 2), 0);
            Checks.due(18, "most", x.most(1, 12, 0), 54);
            Checks.due(19, "last", x.last(1), 22);
            Checks.due(20, "crow", x.crow(2), 6);
            Checks.due(21, "where", x.where(0, 0, 1, 2), 2);
        }
        Checks.due(20, "dawn", x.count(5), 25);
        Checks.due(19, "holder", x.count(6), 1);
        Checks.due(19, "minute", x.count(3), 2);
        Checks.due(19, "acts", x.count(4), 2);
    }
}
