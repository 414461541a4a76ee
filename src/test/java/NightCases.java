/** Promises 9 to 15, 22 and 23: the night as it goes. */
final class NightCases {
    private NightCases() {
    }

    static void run() {
        trader();
        takes();
        there();
        pass();
        refused();
        waits();
        bribe();
        undo();
        forgotten();
        images();
        imagesRefused();
    }

    private static void trader() {
        BirchLeaf x = Hills.with(Hills.FIVE);
        Checks.due(13, "gives", x.trader(1, 0), 31);
        Checks.due(13, "till", x.trader(1, 1), 25);
        Checks.due(13, "a miller's price is cut", x.trader(1, 2), 15);
        Checks.due(13, "wins", x.trader(1, 3), 0);
        Checks.due(13, "a baker's price", x.trader(0, 2), 20);
        Checks.due(13, "a knower's price", x.trader(2, 2), 9);
        Checks.due(13, "a priest's price", x.trader(3, 2), 5);
        Checks.due(13, "a blind one's price", x.trader(4, 2), 14);
        Checks.due(13, "trader 5", x.trader(5, 0), Checks.BAD);
        Checks.due(13, "trader -1", x.trader(-1, 0), Checks.BAD);
        Checks.due(13, "what 4", x.trader(0, 4), Checks.BAD);
        Checks.due(13, "what -1", x.trader(0, -1), Checks.BAD);
        Checks.due(13, "no hill", new BirchLeaf().trader(0, 0), Checks.BAD);
    }

    private static void takes(BirchLeaf x, int trader, int first, int behind) {
        Checks.due(14, trader + " in " + first, x.takes(trader, first), 1);
        Checks.due(14, trader + " in " + behind, x.takes(trader, behind), 0);
    }

    private static void takes() {
        BirchLeaf x = Hills.with(Hills.FIVE);
        takes(x, 0, 30, 31);
        takes(x, 1, 30, 31);
        takes(x, 2, 30, 31);
        takes(x, 3, 39, 40);
        takes(x, 4, 38, 39);
        takes(x, 4, 0, 1);
        takes(x, 4, 38, 40);
        x.bribe(20);
        takes(x, 0, 19, 20);
        takes(x, 1, 19, 20);
        takes(x, 2, 10, 11);
        takes(x, 3, 19, 20);
        takes(x, 4, 18, 20);
        x.bribe(60);
        takes(x, 2, 50, 51);
        Hills.read(x, "night 60 0;trader knower 1 20;trader baker 1 0;trader miller 1 60;trader miller 1 0;");
        takes(x, 0, 20, 21);
        takes(x, 1, 0, 1);
        takes(x, 2, 59, 60);
        takes(x, 3, 5, 6);
        Checks.due(14, "trader 4", x.takes(4, 0), Checks.BAD);
        Checks.due(14, "trader -1", x.takes(-1, 0), Checks.BAD);
        Checks.due(14, "t -1", x.takes(0, -1), Checks.BAD);
        Checks.due(14, "t 61", x.takes(0, 61), Checks.BAD);
        Checks.due(14, "t 60", x.takes(0, 60), 0);
        Checks.due(14, "no hill", new BirchLeaf().takes(0, 0), Checks.BAD);
    }

    private static void there() {
        BirchLeaf x = Hills.with(Hills.FIVE);
        Checks.due(15, "over water", x.there(0, 1, 0), 3);
        Checks.due(15, "in minute WATER", x.there(0, 1, 22), 25);
        Checks.due(15, "behind it, by land", x.there(0, 1, 23), 28);
        Checks.due(15, "back", x.there(1, 0, 22), 25);
        Checks.due(15, "in 60", x.there(1, 0, 60), 65);
        Checks.due(15, "water alone", x.there(2, 3, 18), 25);
        Checks.due(15, "no more", x.there(2, 3, 19), Checks.NONE);
        Checks.due(15, "not over others", x.there(0, 2, 0), Checks.NONE);
        Checks.due(15, "dawn is no matter", x.there(4, 0, 50), 56);
        Checks.due(15, "alike", x.there(2, 2, 0), Checks.BAD);
        Checks.due(15, "a 5", x.there(5, 0, 0), Checks.BAD);
        Checks.due(15, "b 5", x.there(0, 5, 0), Checks.BAD);
        Checks.due(15, "a -1", x.there(-1, 0, 0), Checks.BAD);
        Checks.due(15, "b -1", x.there(0, -1, 0), Checks.BAD);
        Checks.due(15, "t -1", x.there(0, 1, -1), Checks.BAD);
        Checks.due(15, "t 61", x.there(0, 1, 61), Checks.BAD);
        Checks.due(15, "no hill", new BirchLeaf().there(0, 1, 0), Checks.BAD);
        Hills.read(x, "night 9 30;trader priest 1 1;trader priest 1 1;way 1 0 9 1;way 0 1 4 1;way 0 1 6 1;"
                + "way 0 1 20 0;way 1 0 5 0;way 0 1 7 0;");
        Checks.due(15, "the shortest of water", x.there(0, 1, 26), 30);
        Checks.due(15, "the shortest of land", x.there(0, 1, 27), 32);
        Hills.read(x, "night 9 30;trader priest 1 1;trader priest 1 1;way 1 0 9 1;way 0 1 4 0;");
        Checks.due(15, "land is shorter", x.there(0, 1, 0), 4);
        Hills.read(x, "night 9 1;trader priest 1 1;trader priest 1 1;way 1 0 1 1;");
        Checks.due(15, "one minute of water", x.there(0, 1, 0), 1);
        Checks.due(15, "one minute too late", x.there(0, 1, 1), Checks.NONE);
        Hills.read(x, "night 9 0;trader priest 1 1;trader priest 1 1;way 1 0 1 1;");
        Checks.due(15, "water 0", x.there(0, 1, 0), Checks.NONE);
    }

    private static void pass() {
        BirchLeaf x = Hills.with(Hills.FIVE);
        Checks.due(9, "to a miller", x.pass(1), 3);
        Checks.due(9, "has it", x.count(6), 1);
        Checks.due(9, "minute", x.count(3), 3);
        Checks.due(9, "an act", x.count(4), 1);
        Checks.due(9, "wins his price", x.trader(0, 3), 15);
        Checks.due(9, "loses it", x.trader(1, 3), -15);
        Checks.due(9, "to a knower", x.pass(2), 7);
        Checks.due(9, "wins", x.trader(1, 3), -6);
        Checks.due(9, "loses", x.trader(2, 3), -9);
        Checks.due(9, "he has it", x.pass(2), Checks.STATE);
        Checks.due(9, "no way", x.pass(0), Checks.STATE);
        Checks.due(9, "over water", x.pass(3), 14);
        Checks.due(9, "to a blind one", x.pass(4), 16);
        Checks.due(9, "round", x.pass(0), 22);
        Checks.due(9, "sums", x.trader(0, 3), -5);
        Checks.due(9, "acts", x.count(4), 5);
    }

    private static void refused() {
        BirchLeaf x = Hills.with(Hills.FIVE);
        Checks.due(9, "trader 5", x.pass(5), Checks.BAD);
        Checks.due(9, "trader -1", x.pass(-1), Checks.BAD);
        Checks.due(9, "to himself", x.pass(0), Checks.STATE);
        Checks.due(9, "no way", x.pass(3), Checks.STATE);
        Checks.due(9, "nothing is an act", x.count(4), 0);
        x.waits(1);
        Checks.due(9, "a blind one in an odd minute", x.pass(4), Checks.STATE);
        Checks.due(9, "nothing is changed", x.count(3), 1);
        Checks.due(9, "nobody else has it", x.count(6), 0);
        x.waits(33);
        Checks.due(9, "dawn when it is there", x.pass(4), Checks.STATE);
        x.bribe(41);
        Checks.due(9, "just ahead of it", x.pass(4), 40);
        BirchLeaf y = Hills.with("night 60 0;trader baker 1 1;trader baker 5 10;way 0 1 5 0;");
        y.waits(6);
        Checks.due(9, "beyond TILL when there", y.pass(1), Checks.STATE);
        y.undo();
        y.waits(5);
        Checks.due(9, "TILL when there", y.pass(1), 10);
    }

    private static void waits() {
        BirchLeaf x = new BirchLeaf();
        Checks.due(10, "no hill", x.waits(1), Checks.STATE);
        Checks.due(10, "no hill ahead of BAD", x.waits(0), Checks.STATE);
        Hills.read(x, Hills.ROUND);
        Checks.due(10, "n 0", x.waits(0), Checks.BAD);
        Checks.due(10, "n 61", x.waits(61), Checks.BAD);
        Checks.due(10, "n -1", x.waits(-1), Checks.BAD);
        Checks.due(10, "one", x.waits(1), 1);
        Checks.due(10, "beyond 60", x.waits(60), Checks.FULL);
        Checks.due(10, "BAD ahead of FULL", x.waits(Integer.MAX_VALUE), Checks.BAD);
        Checks.due(10, "still", x.count(3), 1);
        Checks.due(10, "to 60", x.waits(59), 60);
        Checks.due(10, "no more", x.waits(1), Checks.FULL);
        Checks.due(10, "acts", x.count(4), 2);
        BirchLeaf y = Hills.with(Hills.ROUND);
        Checks.due(10, "60 at once", y.waits(60), 60);
        Checks.due(10, "nobody else has it", y.count(6), 0);
    }

    private static void bribe() {
        BirchLeaf x = new BirchLeaf();
        Checks.due(11, "no hill", x.bribe(1), Checks.STATE);
        Checks.due(11, "no hill ahead of BAD", x.bribe(0), Checks.STATE);
        Hills.read(x, Hills.ROUND);
        Checks.due(11, "d 0", x.bribe(0), Checks.BAD);
        Checks.due(11, "d 61", x.bribe(61), Checks.BAD);
        Checks.due(11, "what it was", x.bribe(60), 30);
        Checks.due(11, "is", x.count(5), 60);
        Checks.due(11, "what it was then", x.bribe(1), 60);
        Checks.due(11, "the same", x.bribe(1), 1);
        Checks.due(11, "acts, also the last", x.count(4), 3);
        x.waits(20);
        Checks.due(11, "behind the minute", x.bribe(10), 1);
    }

    private static void undo() {
        BirchLeaf x = new BirchLeaf();
        Checks.due(12, "no hill", x.undo(), Checks.STATE);
        Hills.read(x, Hills.FIVE);
        Checks.due(12, "no act", x.undo(), Checks.STATE);
        x.pass(1);
        x.waits(2);
        x.bribe(33);
        x.bribe(33);
        x.pass(2);
        Checks.due(12, "the passing", x.undo(), 4);
        Checks.due(12, "has it again", x.count(6), 1);
        Checks.due(12, "minute again", x.count(3), 5);
        Checks.due(12, "wins again", x.trader(1, 3), -15);
        Checks.due(12, "also of the other", x.trader(2, 3), 0);
        Checks.due(12, "the second bribe", x.undo(), 3);
        Checks.due(12, "dawn yet", x.count(5), 33);
        Checks.due(12, "the first bribe", x.undo(), 2);
        Checks.due(12, "dawn again", x.count(5), 40);
        Checks.due(12, "the minutes", x.undo(), 1);
        Checks.due(12, "minute 3", x.count(3), 3);
        Checks.due(12, "the first passing", x.undo(), 0);
        Checks.due(12, "trader 0 has it", x.count(6), 0);
        Checks.due(12, "minute 0", x.count(3), 0);
        Checks.due(12, "wins 0", x.trader(0, 3), 0);
        Checks.due(12, "none", x.undo(), Checks.STATE);
    }

    private static void forgotten() {
        BirchLeaf x = Hills.with(Hills.ROUND);
        for (int d = 1; d <= 30; d++) {
            x.bribe(d);
        }
        Checks.due(12, "24 are kept", x.count(4), 24);
        for (int left = 23; left >= 0; left--) {
            Checks.due(12, "undone to " + left, x.undo(), left);
            Checks.due(12, "dawn at " + left, x.count(5), 6 + left);
        }
        Checks.due(12, "the oldest is forgotten", x.undo(), Checks.STATE);
        Checks.due(12, "and stays done", x.count(5), 6);
        BirchLeaf y = Hills.with("night 60 0;trader priest 3 0;trader priest 5 0;way 0 1 1 0;");
        for (int i = 0; i < 29; i++) {
            y.pass(1 - i % 2);
        }
        for (int i = 0; i < 24; i++) {
            y.undo();
        }
        Checks.due(12, "five passings stay", y.count(3), 5);
        Checks.due(12, "with their wins", y.trader(0, 3), 9);
        Checks.due(12, "and losses", y.trader(1, 3), -9);
        Checks.due(12, "he has it", y.count(6), 1);
    }

    private static void images() {
        BirchLeaf x = Hills.with(Hills.FIVE);
        x.pass(1);
        x.bribe(39);
        Checks.due(22, "kept", x.image(1), 1);
        Checks.due(22, "acts stay", x.count(4), 2);
        x.pass(2);
        x.bribe(50);
        Checks.due(22, "the other", x.image(0), 1);
        Checks.due(23, "as it was", x.restore(1), 1);
        Checks.due(23, "minute", x.count(3), 3);
        Checks.due(23, "dawn", x.count(5), 39);
        Checks.due(23, "holder", x.count(6), 1);
        Checks.due(23, "wins", x.trader(1, 3), -15);
        Checks.due(23, "no act", x.count(4), 0);
        Checks.due(23, "no undo", x.undo(), Checks.STATE);
        Hills.read(x, Hills.ROUND);
        Checks.due(23, "another hill's", x.restore(0), 1);
        Checks.due(23, "traders", x.count(1), 5);
        Checks.due(23, "ways", x.count(2), 7);
        Checks.due(23, "water", x.there(0, 1, 23), 28);
        Checks.due(23, "sorts", x.kind(4), 5);
        Checks.due(23, "what they give", x.trader(4, 0), 14);
        Checks.due(23, "and till when", x.trader(2, 1), 60);
        Checks.due(23, "has it", x.count(6), 2);
        Checks.due(23, "dawn there", x.count(5), 50);
        x.pass(1);
        x.pass(0);
        Checks.due(23, "again, unchanged by what came", x.restore(0), 1);
        Checks.due(23, "still", x.trader(0, 3), 15);
        Checks.due(23, "one that loses", x.trader(2, 3), -9);
        x.restore(1);
        x.image(0);
        Checks.due(22, "in place of the one before", x.restore(0), 1);
        Checks.due(22, "it is that", x.count(5), 39);
    }

    private static void imagesRefused() {
        BirchLeaf x = new BirchLeaf();
        Checks.due(22, "k 2", x.image(2), Checks.BAD);
        Checks.due(22, "k -1", x.image(-1), Checks.BAD);
        Checks.due(22, "no hill", x.image(0), Checks.STATE);
        Checks.due(23, "k 2", x.restore(2), Checks.BAD);
        Checks.due(23, "k -1", x.restore(-1), Checks.BAD);
        Checks.due(23, "none", x.restore(1), Checks.STATE);
        Hills.read(x, Hills.ROUND);
        x.waits(1);
        x.image(0);
        Checks.due(23, "none of the other", x.restore(1), Checks.STATE);
        Checks.due(23, "acts stay then", x.count(4), 1);
    }
}
