/** Section 3, promises 16 to 21: each boundary from both sides. */
final class ForetoldBounds {
    private static final int LEAST = Integer.MIN_VALUE, GREATEST = Integer.MAX_VALUE;
    /** Of 0 the baker's last MINUTE is 7, the miller's 9, the priest's 25. */
    private static final String FAN = "night 30 0;trader priest 1 0;trader baker 20 9;trader miller 31 9;"
            + "trader priest 7 0;way 0 1 2 0;way 0 2 5 0;way 0 3 4 0;";
    private static final String BLIND = "night 30 0;trader priest 1 0;trader blind 9 0;way 0 1 3 0;";
    private static final String KNOWER = "night 30 0;trader priest 1 0;trader knower 9 60;way 0 1 3 0;";
    private static final String NEXT = "night 60 0;trader priest 5 0;trader priest 0 0;way 0 1 1 0;";
    private static final String PAIR = "night 60 0;trader priest 1 0;trader priest 1 0;way 0 1 5 0;";

    private ForetoldBounds() {
    }

    static void run() {
        refusedByMinute();
        changesNothing();
        worthByMinute();
        worthOfNone();
        sureOfNothing();
        anew();
        mostByMinute();
        mostFewest();
        lastRefused();
        lastAtOnce();
        lastOfSeveral();
        lastSince();
        crowRefused();
        crowByDawn();
        crowEnds();
        whereRefused();
        wherePairs();
        whereEnds();
        whereOnTheWay();
        whereTwo();
        whereFirstAndLast();
        whereTen();
        whereDawn();
    }

    private interface Asked {
        int of(BirchLeaf x, int trader, int t);
    }

    private static void refusedByMinute(int promise, String what, Asked asked) {
        Twins.Ahead much = Stages::taped;
        Twins.refused(promise, what + " of one below 0", much, x -> asked.of(x, -1, 0), Checks.BAD);
        Twins.refused(promise, what + " of 5 of 5", much, x -> asked.of(x, 5, 0), Checks.BAD);
        Twins.refused(promise, what + " of 6", much, x -> asked.of(x, 6, 60), Checks.BAD);
        Twins.refused(promise, what + " of a far one", much, x -> asked.of(x, GREATEST, 0), Checks.BAD);
        Twins.refused(promise, what + " below 0", much, x -> asked.of(x, 0, -1), Checks.BAD);
        Twins.refused(promise, what + " in 61", much, x -> asked.of(x, 0, 61), Checks.BAD);
        Twins.refused(promise, what + " far", much, x -> asked.of(x, 0, GREATEST), Checks.BAD);
        Twins.refused(promise, what + " far below", much, x -> asked.of(x, 0, LEAST), Checks.BAD);
        Twins.refused(promise, what + " without a hill", Stages::bare, x -> asked.of(x, 0, 0), Checks.BAD);
        Twins.only(promise, what + " in 60", much, x -> asked.of(x, 4, 60), 0);
        for (int traders = 1; traders <= 6; traders++) {
            BirchLeaf x = Hills.with("night 9 9;" + Hills.times("trader priest 8 7;", traders));
            Checks.due(promise, what + " of the last of " + traders, asked.of(x, traders - 1, 0), 0);
            Checks.due(promise, what + " behind " + traders, asked.of(x, traders, 0), Checks.BAD);
        }
    }

    private static void refusedByMinute() {
        refusedByMinute(16, "worth", (x, trader, t) -> x.worth(trader, t));
        refusedByMinute(17, "sure", (x, trader, t) -> x.sure(trader, t));
        refusedByMinute(18, "most", (x, trader, t) -> x.most(trader, t, 0));
        refusedByMinute(18, "times", (x, trader, t) -> x.most(trader, t, 1));
        for (int what : new int[] {-1, 2, 3, LEAST, GREATEST}) {
            Twins.refused(18, "what " + what, Stages::taped, x -> x.most(0, 0, what), Checks.BAD);
        }
    }

    /** FORETOLD: nothing changes, also where much is gone through. */
    private static void changesNothing() {
        Twins.Ahead much = Stages::taped;
        Twins.only(16, "worth", much, x -> x.worth(0, 0), 15);
        Twins.only(17, "sure", much, x -> x.sure(0, 0), 0);
        Twins.only(18, "most", much, x -> x.most(3, 33, 0), 14 + 5);
        Twins.only(18, "times", much, x -> x.most(3, 33, 1), 2);
        // From 1 in 4 to 0 in 7, to 1 in 10 and so on to 0 in 25, then by land to 1 in 30, the miller's
        // last; the baker is till 30, for the knower dawn is too near.
        Twins.only(19, "last", much, x -> x.last(0), 1);
        Twins.only(19, "since", much, x -> x.last(1), 30);
        for (int trader = 0; trader < 5; trader++) {
            int one = trader;
            BirchLeaf x = new BirchLeaf();
            Stages.taped(x);
            Twins.only(20, "crow of " + one, much, y -> y.crow(one), x.crow(one));
        }
        Twins.but(21, "where", much, x -> x.where(0, 0, 1, 0), 0, "status", 0);
        Twins.but(21, "where of none", much, x -> x.where(3, 0, 0, 60), 31, "status", 0);
    }

    private static void worthByMinute() {
        BirchLeaf x = Hills.with(FAN);
        BirchLeaf blind = Hills.with(BLIND);
        BirchLeaf knower = Hills.with(KNOWER);
        BirchLeaf next = Hills.with(NEXT);
        for (int t = 0; t <= 60; t++) {
            Checks.due(16, "the greatest in " + t, x.worth(0, t), t <= 7 ? 20 : t <= 9 ? 15 : t <= 25 ? 7 : 0);
            Checks.due(16, "of the baker in " + t, x.worth(1, t), t <= 27 ? 1 : 0);
            Checks.due(16, "of the miller in " + t, x.worth(2, t), t <= 24 ? 1 : 0);
            Checks.due(16, "to a blind one in " + t + ", or later", blind.worth(0, t), t <= 25 ? 9 : 0);
            Checks.due(16, "to a knower in " + t, knower.worth(0, t), t <= 17 ? 9 : 0);
            Checks.due(16, "to the next in " + t, next.worth(1, t), t <= 58 ? 5 : 0);
        }
        x.bribe(10);
        for (int t = 0; t <= 60; t++) {
            Checks.due(16, "dawn 10, in " + t, x.worth(0, t), t <= 7 ? 20 : 0);
        }
        x.bribe(9);
        Checks.due(16, "dawn 9, in 6", x.worth(0, 6), 20);
        Checks.due(16, "dawn 9, in 7", x.worth(0, 7), 0);
        BirchLeaf half = Hills.with("night 9 0;trader priest 1 0;trader miller 31 9;trader baker 16 9;way 0 1 1 0;way 0 2 1 0;");
        Checks.due(16, "a miller's half is less", half.worth(0, 0), 16);
        BirchLeaf wet = Hills.with("night 60 20;trader priest 1 0;trader priest 8 0;trader priest 3 0;way 0 1 5 1;way 0 2 5 0;");
        for (int t = 0; t <= 60; t++) {
            Checks.due(16, "over water in " + t, wet.worth(0, t), t <= 15 ? 8 : t <= 54 ? 3 : 0);
        }
    }

    /** 0: he cannot. */
    private static void worthOfNone() {
        BirchLeaf x = Hills.with(Hills.ALONE);
        BirchLeaf y = Hills.with("night 60 60;trader priest 9 9;trader priest 9 9;trader priest 9 9;way 0 1 1 0;");
        BirchLeaf z = Hills.with(NEXT);
        for (int t = 0; t <= 60; t++) {
            Checks.due(16, "alone in " + t, x.worth(0, t), 0);
            Checks.due(16, "no way in " + t, y.worth(2, t), 0);
            Checks.due(16, "for nothing in " + t, z.worth(0, t), 0);
            Checks.due(18, "most, alone in " + t, x.most(0, t, 0), 0);
            Checks.due(18, "times, alone in " + t, x.most(0, t, 1), 0);
            Checks.due(18, "most, no way in " + t, y.most(2, t, 0), 0);
            Checks.due(18, "times, no way in " + t, y.most(2, t, 1), 0);
        }
    }

    /** The last one to take it is SURE of nothing, so each one ahead of him is not either: 0, but by no PRICE. */
    private static void sureOfNothing() {
        for (String hill : new String[] {FAN, BLIND, KNOWER, NEXT, PAIR, Hills.FIVE, Hills.ROUND}) {
            BirchLeaf x = Hills.with(hill);
            int traders = Math.min(4, x.count(1));
            for (int t = 0; t <= 60; t++) {
                for (int trader = 0; trader < traders; trader++) {
                    Checks.due(17, "of " + trader + " in " + t, x.sure(trader, t), 0);
                }
            }
        }
    }

    /** What one call has gone through is of no account for the next one, of another MINUTE, or of another hill. */
    private static void anew() {
        String six = "night 60 60;" + Hills.times("trader priest 9 0;", 6) + "way 0 1 1 0;way 1 2 1 0;way 2 3 1 0;"
                + "way 3 4 1 0;way 4 5 1 0;way 5 0 1 0;";
        BirchLeaf x = Hills.with(six);
        Stages.fill(x, 0, 0, 5, 9);
        for (int trader = 0; trader < 6; trader++) {
            Checks.due(18, "most", x.most(trader, 0, 0), 59 * 9);
            Checks.due(17, "sure behind most", x.sure(trader, 0), 0);
            Checks.due(18, "times behind sure", x.most(trader, 0, 1), 59);
            Checks.due(17, "sure behind times", x.sure(trader, 30), 0);
            Checks.due(18, "most behind sure, later", x.most(trader, 58, 0), 9);
        }
        Checks.due(21, "all six", x.where(0, 0, 0, 60), 63);
        Checks.due(21, "as told", x.where(0, 0, 1, 9), 32);
        Checks.due(21, "not told any more", x.where(0, 0, 0, 9), 63);
        Hills.read(x, "night 60 60;" + Hills.times("trader priest 9 0;", 6));
        for (int t = 0; t <= 60; t++) {
            Checks.due(21, "no ways any more, in " + t, x.where(0, 0, 0, t), 1);
            Checks.due(18, "none to pass it to, in " + t, x.most(t % 6, t, 0), 0);
        }
    }

    private static int coins(int times, int first, int second) {
        return (times + 1) / 2 * first + times / 2 * second;
    }

    /** By as many as there are MINUTES for ahead of DAWN, to the same one again, too. */
    private static void mostByMinute() {
        BirchLeaf x = Hills.with(Hills.TWO);
        BirchLeaf y = Hills.with("night 60 60;trader priest 99 0;trader priest 98 0;way 0 1 1 0;");
        for (int t = 0; t <= 60; t++) {
            int times = t < 60 ? (59 - t) / 4 : 0;
            Checks.due(18, "from 0 in " + t, x.most(0, t, 0), coins(times, 20, 10));
            Checks.due(18, "from 1 in " + t, x.most(1, t, 0), coins(times, 10, 20));
            Checks.due(18, "times in " + t, x.most(0, t, 1), times);
            times = t < 60 ? 59 - t : 0;
            Checks.due(18, "from 0 in " + t + ", each minute", y.most(0, t, 0), coins(times, 98, 99));
            Checks.due(18, "times of 1 in " + t, y.most(1, t, 1), times);
        }
        x.bribe(9);
        for (int t = 0; t <= 60; t++) {
            int times = t <= 0 ? 2 : t <= 4 ? 1 : 0;
            Checks.due(18, "dawn 9, in " + t, x.most(0, t, 0), coins(times, 20, 10));
            Checks.due(18, "dawn 9, times in " + t, x.most(0, t, 1), times);
        }
    }

    /** The fewest by which it is that: one for nothing counts only if a PRICE comes behind it. */
    private static void mostFewest() {
        BirchLeaf x = Hills.with(NEXT);
        for (int t = 0; t <= 60; t++) {
            int times = t < 60 ? 59 - t : 0;
            Checks.due(18, "from 0 in " + t, x.most(0, t, 0), times / 2 * 5);
            Checks.due(18, "no last one for nothing in " + t, x.most(0, t, 1), times / 2 * 2);
            Checks.due(18, "from 1 in " + t, x.most(1, t, 0), (times + 1) / 2 * 5);
            Checks.due(18, "nor from 1 in " + t, x.most(1, t, 1), times == 0 ? 0 : (times + 1) / 2 * 2 - 1);
        }
        BirchLeaf y = Hills.with("night 12 0;trader baker 0 0;trader priest 4 0;trader priest 4 0;trader priest 8 0;"
                + "way 0 1 3 0;way 1 2 3 0;way 0 3 6 0;");
        Checks.due(18, "8 by one or by two", y.most(0, 5, 0), 8);
        Checks.due(18, "by one", y.most(0, 5, 1), 1);
        Checks.due(18, "by three", y.most(0, 0, 0), 12);
        Checks.due(18, "no fewer", y.most(0, 0, 1), 3);
    }

    private static void lastRefused() {
        for (int what : new int[] {-1, 2, 3, LEAST, GREATEST}) {
            Twins.refused(19, "what " + what, Stages::taped, x -> x.last(what), Checks.BAD);
            Twins.refused(19, "no hill ahead of BAD, " + what, Stages::bare, x -> x.last(what), Checks.STATE);
        }
        Twins.refused(19, "no hill, who", Stages::bare, x -> x.last(0), Checks.STATE);
        Twins.refused(19, "no hill, since", Stages::bare, x -> x.last(1), Checks.STATE);
    }

    private static void last(String what, BirchLeaf x, int who, int since) {
        Checks.due(19, what + ", who", x.last(0), who);
        Checks.due(19, what + ", since", x.last(1), since);
    }

    private static void lastAtOnce() {
        BirchLeaf x = Hills.with(BLIND);
        last("he would have to wait, so he keeps it", x, 0, 0);
        x.waits(1);
        last("at once in 1: in 4, 7, 10 and on to 28", x, 1, 28);
        BirchLeaf y = Hills.with("night 60 0;trader priest 1 0;trader baker 9 4;trader priest 1 0;way 0 1 5 0;way 0 2 30 0;");
        last("till 4 is by when it would be there", y, 2, 30);
    }

    private static void lastOfSeveral() {
        for (int first = 1; first <= 4; first++) {
            for (int second = first + 1; second <= 5; second++) {
                StringBuilder text = new StringBuilder("night 2 0;trader priest 1 0;");
                for (int trader = 1; trader <= 5; trader++) {
                    text.append("trader priest ").append(trader == first || trader == second ? 9 : 8).append(" 0;");
                }
                for (int trader = 5; trader >= 1; trader--) {
                    text.append("way 0 ").append(trader).append(" 1 0;");
                }
                last("the first of " + first + " and " + second, Hills.with(text.toString()), first, 1);
            }
        }
        String ways = "way 0 2 1 0;way 0 1 1 0;";
        last("a miller's half is less", Hills.with("night 2 0;trader priest 1 0;trader miller 31 9;trader baker 16 9;" + ways),
                2, 1);
        last("a miller's half, as much", Hills.with("night 2 0;trader priest 1 0;trader miller 31 9;trader baker 15 9;" + ways),
                1, 1);
        last("as much as a miller's half", Hills.with("night 2 0;trader priest 1 0;trader baker 15 9;trader miller 31 9;" + ways),
                1, 1);
        last("the greater one takes it no more", Hills.with("night 9 0;trader priest 1 0;trader baker 9 0;trader knower 9 9;"
                + ways), 0, 0);
        last("the lesser one is there", Hills.with("night 2 0;trader priest 1 0;trader baker 9 0;trader priest 0 0;" + ways),
                2, 1);
    }

    private static void lastSince() {
        BirchLeaf x = Hills.with(NEXT);
        for (int dawn = 1; dawn <= 60; dawn++) {
            x.bribe(dawn);
            last("each minute to dawn " + dawn, x, (dawn - 1) % 2, dawn - 1);
        }
        BirchLeaf y = Hills.with(NEXT);
        for (int m = 0; m <= 60; m++) {
            last("from " + m, y, m < 60 ? (59 - m) % 2 : 0, Math.max(59, m));
            y.waits(1);
        }
        BirchLeaf z = Hills.with(NEXT);
        z.pass(1);
        last("from who has it", z, 1, 59);
        z.waits(58);
        last("who has it, as it is now", z, 1, 59);
        z.waits(1);
        last("who has it, as it is in 60", z, 1, 60);
    }

    private static void crowRefused() {
        for (int trader : new int[] {-1, 5, 6, LEAST, GREATEST}) {
            Twins.refused(20, "crow of " + trader, Stages::taped, x -> x.crow(trader), Checks.BAD);
        }
        Twins.refused(20, "no hill", Stages::bare, x -> x.crow(0), Checks.BAD);
        for (int traders = 1; traders <= 6; traders++) {
            BirchLeaf x = Hills.with("night 9 9;" + Hills.times("trader priest 8 7;", traders));
            Checks.due(20, "the last of " + traders, x.crow(traders - 1), traders == 1 ? 1 : Checks.NONE);
            Checks.due(20, "behind " + traders, x.crow(traders), Checks.BAD);
        }
    }

    /** The least DAWN by which he is LAST: as bribes to each tell it. */
    private static void crowByDawn() {
        for (String hill : new String[] {FAN, BLIND, KNOWER, NEXT, PAIR, Hills.FIVE, Hills.ROUND}) {
            for (int m : new int[] {0, 1, 7, 29, 30, 54, 55, 59, 60}) {
                BirchLeaf x = Hills.with(hill);
                if (m > 0) {
                    x.waits(m);
                }
                int[] due = {Checks.NONE, Checks.NONE, Checks.NONE, Checks.NONE, Checks.NONE, Checks.NONE};
                for (int dawn = 60; dawn >= 1; dawn--) {
                    x.bribe(dawn);
                    due[x.last(0)] = dawn;
                }
                for (int dawn : new int[] {1, 30, 60}) {
                    x.bribe(dawn);
                    for (int trader = 0; trader < x.count(1); trader++) {
                        Checks.due(20, trader + " from " + m + " on " + hill, x.crow(trader), due[trader]);
                    }
                }
            }
        }
    }

    private static void crowEnds() {
        BirchLeaf x = Hills.with("night 5 0;trader priest 1 0;trader priest 9 0;way 0 1 30 0;");
        for (int m = 0; m <= 60; m++) {
            Checks.due(20, "who has it, by 1, from " + m, x.crow(0), 1);
            Checks.due(20, "the other one from " + m, x.crow(1), m + 31 <= 60 ? m + 31 : Checks.NONE);
            x.waits(1);
        }
        BirchLeaf y = Hills.with(NEXT);
        Checks.due(20, "the least of many", y.crow(1), 2);
        y.waits(58);
        Checks.due(20, "60 alone", y.crow(1), 60);
        y.waits(1);
        Checks.due(20, "61 would be", y.crow(1), Checks.NONE);
    }

    /** Row 4: pairs that are none, and one that is, in 8. */
    private static void pairs(BirchLeaf x) {
        Stages.taped(x);
        Stages.fill(x, 4, 2, 5, 0, 0, 61, 0, -1, -1, 0, 0, 0, GREATEST, LEAST);
        x.copy(0, 0, 1, 0, 1);
    }

    private static void whereRefused(String what, int row, int i, int n, int t, int want) {
        Twins.refused(21, what, ForetoldBounds::pairs, x -> x.where(row, i, n, t), want);
    }

    private static void whereRefused() {
        Twins.refused(21, "no hill", Stages::bare, x -> x.where(0, 0, 0, 0), Checks.STATE);
        Twins.refused(21, "no hill ahead of BAD row", Stages::bare, x -> x.where(8, 0, 0, 0), Checks.STATE);
        Twins.refused(21, "no hill ahead of BAD n", Stages::bare, x -> x.where(0, 0, 11, 0), Checks.STATE);
        Twins.refused(21, "no hill ahead of BAD t", Stages::bare, x -> x.where(0, 0, 0, 61), Checks.STATE);
        Twins.refused(21, "no hill ahead of PLACE", x -> x.row(0, 0, 0), x -> x.where(0, 0, 1, 0), Checks.STATE);
        whereRefused("row below 0", -1, 0, 0, 0, Checks.BAD);
        whereRefused("row 8", 8, 0, 0, 0, Checks.BAD);
        whereRefused("row far", LEAST, 0, 0, 0, Checks.BAD);
        whereRefused("n below 0", 0, 0, -1, 0, Checks.BAD);
        whereRefused("n 11", 0, 0, 11, 0, Checks.BAD);
        whereRefused("n far", 0, 0, GREATEST, 0, Checks.BAD);
        whereRefused("n far below", 0, 0, LEAST, 0, Checks.BAD);
        whereRefused("t below 0", 0, 0, 1, -1, Checks.BAD);
        whereRefused("t 61", 0, 0, 1, 61, Checks.BAD);
        whereRefused("t far", 0, 0, 1, GREATEST, Checks.BAD);
        whereRefused("BAD n ahead of NULL", 5, 0, 11, 0, Checks.BAD);
        whereRefused("BAD t ahead of NULL", 5, 0, 0, 61, Checks.BAD);
        whereRefused("BAD t ahead of PLACE", 0, -1, 0, 61, Checks.BAD);
        whereRefused("missing", 5, 0, 0, 0, Checks.NULL);
        whereRefused("missing, the last", 7, 0, 1, 60, Checks.NULL);
        whereRefused("NULL ahead of PLACE", 5, -1, 1, 0, Checks.NULL);
    }

    private static void wherePairs() {
        whereRefused("i below 0", 0, -1, 1, 0, Checks.PLACE);
        whereRefused("i below 0, none", 0, -1, 0, 0, Checks.PLACE);
        whereRefused("one of a pair beyond the end", 0, 2, 1, 0, Checks.PLACE);
        whereRefused("a pair beyond the end", 0, 3, 1, 0, Checks.PLACE);
        whereRefused("none, beyond the end", 0, 4, 0, 0, Checks.PLACE);
        whereRefused("the second beyond the end", 0, 0, 2, 0, Checks.PLACE);
        whereRefused("a pair of a row of none", 3, 0, 1, 0, Checks.PLACE);
        whereRefused("i far", 0, GREATEST, 10, 0, Checks.PLACE);
        whereRefused("i far below", 0, LEAST, 10, 0, Checks.PLACE);
        whereRefused("PLACE ahead of a pair that is none", 4, 0, 7, 0, Checks.PLACE);
        whereRefused("PLACE ahead of one that is none, by one", 4, 1, 6, 0, Checks.PLACE);
        whereRefused("trader 5 of 5", 4, 0, 1, 0, Checks.BAD);
        whereRefused("minute 61", 4, 2, 1, 0, Checks.BAD);
        whereRefused("minute below 0", 4, 4, 1, 0, Checks.BAD);
        whereRefused("trader below 0", 4, 6, 1, 0, Checks.BAD);
        whereRefused("far both", 4, 10, 1, 0, Checks.BAD);
        whereRefused("one that is none behind one that is", 4, 8, 2, 0, Checks.BAD);
        whereRefused("one that is none ahead of one that is", 4, 6, 2, 0, Checks.BAD);
        whereRefused("by one further, a minute for a trader", 4, 3, 1, 0, Checks.BAD);
        Twins.but(21, "what is told by n pairs alone", ForetoldBounds::pairs, x -> x.where(4, 8, 1, 0), 1, "status", 0);
        Twins.but(21, "none of them", ForetoldBounds::pairs, x -> x.where(4, 0, 0, 0), 1, "status", 0);
        Twins.but(21, "none at the end", ForetoldBounds::pairs, x -> x.where(4, 12, 0, 0), 1, "status", 0);
        Twins.but(21, "the last of a row", ForetoldBounds::pairs, x -> x.where(0, 1, 1, 0), 0, "status", 0);
        for (int traders = 1; traders <= 6; traders++) {
            BirchLeaf x = Hills.with("night 9 9;" + Hills.times("trader priest 8 7;", traders));
            Stages.fill(x, 0, 1, traders - 1, 0, traders, 0);
            Checks.due(21, "the last of " + traders, x.where(0, 0, 1, 0), traders == 1 ? 1 : 0);
            Checks.due(21, "behind " + traders, x.where(0, 2, 1, 0), Checks.BAD);
        }
    }

    private static BirchLeaf told(String hill, int... items) {
        BirchLeaf x = Hills.with(hill);
        Stages.fill(x, 0, 0, items);
        return x;
    }

    private static void where(String what, String hill, int[] items, int t, int due) {
        Checks.due(21, what + ", in " + t, told(hill, items).where(0, 0, items.length / 2, t), due);
    }

    private static void whereEnds() {
        BirchLeaf x = told(PAIR);
        for (int t = 0; t <= 60; t++) {
            Checks.due(21, "nothing told, in " + t, x.where(0, 0, 0, t), t < 5 ? 1 : 3);
        }
        for (int lane = 0; lane < 3; lane++) {
            BirchLeaf y = Hills.with(PAIR);
            y.row(7, lane, 2);
            y.set(7, 0, 1);
            y.set(7, 1, 60);
            Checks.due(21, "of lane " + lane, y.where(7, 0, 1, 60), 2);
        }
    }

    /** Told that it was with 1 in m: on the way it is with nobody, in the MINUTE in which it comes with him. */
    private static void whereOnTheWay() {
        for (int m = 0; m <= 60; m++) {
            BirchLeaf x = told(PAIR, 1, m);
            for (int t = 0; t <= 60; t++) {
                int due = 0;
                if (m >= 5) {
                    // With 0 up to 5 ahead of m, and when it is back; with 1 if it came to him ahead of m.
                    boolean zero = t <= Math.min(59, m) - 5 || t >= m + 5 && m + 5 < 60;
                    due = (zero ? 1 : 0) | (t >= 5 ? 2 : 0);
                }
                Checks.due(21, "with 1 in " + m + ", in " + t, x.where(0, 0, 1, t), due);
            }
        }
        for (int m = 0; m <= 20; m++) {
            BirchLeaf x = told(PAIR, 0, m, 1, m + 5);
            Checks.due(21, "passed in " + m + ", as long as the way is", x.where(0, 0, 2, m), 1);
            for (int t = m + 1; t < m + 5; t++) {
                Checks.due(21, "on the way in " + t, x.where(0, 0, 2, t), 0);
            }
            Checks.due(21, "there in " + (m + 5), x.where(0, 0, 2, m + 5), 2);
            where("a minute too few", PAIR, new int[] {0, m + 1, 1, m + 5}, 60, 0);
            where("a minute more", PAIR, new int[] {0, m, 1, m + 6}, m + 1, 1);
            where("a minute more", PAIR, new int[] {0, m, 1, m + 6}, m + 2, 0);
            where("a minute more", PAIR, new int[] {0, m, 1, m + 6}, m + 5, 2);
        }
        int[] again = {1, 5, 0, 10, 1, 15};
        for (int t = 0; t <= 15; t++) {
            where("passed on in the minute in which it comes", PAIR, again, t, t % 5 != 0 ? 0 : t % 10 == 0 ? 1 : 2);
        }
    }

    /** Two who are told in one MINUTE; one who is told twice in it. */
    private static void whereTwo() {
        for (int m = 0; m <= 60; m += 5) {
            for (int t = 0; t <= 60; t += 5) {
                where("two in " + m, PAIR, new int[] {0, m, 1, m}, t, 0);
                where("two in " + m + ", by turns", PAIR, new int[] {1, m, 0, m}, t, 0);
            }
            where("one twice in " + m, PAIR, new int[] {0, m, 0, m}, m, 1);
            where("the other twice in " + m, PAIR, new int[] {1, m, 1, m}, m, m < 5 ? 0 : 2);
        }
        where("told back in time", PAIR, new int[] {1, 15, 0, 10, 1, 5}, 10, 1);
    }

    /** MINUTE 0 and MINUTE 60. */
    private static void whereFirstAndLast() {
        for (int t = 0; t <= 60; t += 4) {
            where("with 1 in 0", PAIR, new int[] {1, 0}, t, 0);
            where("with 0 in 0", PAIR, new int[] {0, 0}, t, t < 5 ? 1 : 3);
        }
        where("with 0 in 60", PAIR, new int[] {0, 60}, 60, 1);
        where("with 1 in 60", PAIR, new int[] {1, 60}, 60, 2);
        where("with 1 in 60", PAIR, new int[] {1, 60}, 59, 2);
        where("with 1 in 60", PAIR, new int[] {1, 60}, 54, 3);
        where("with 1 in 60", PAIR, new int[] {1, 60}, 55, 2);
        where("with 0 in 59", PAIR, new int[] {0, 59}, 60, 1);
        where("with 0 in 54", PAIR, new int[] {0, 54}, 60, 3);
        where("with 0 in 55", PAIR, new int[] {0, 55}, 60, 1);
        where("with 0 in 55", PAIR, new int[] {0, 55}, 59, 1);
        where("none in 0", PAIR, new int[0], 0, 1);
        where("none in 60", PAIR, new int[0], 60, 3);
        String six = "night 60 60;" + Hills.times("trader priest 1 0;", 6) + "way 0 1 1 0;way 1 2 1 0;way 2 3 1 0;"
                + "way 3 4 1 0;way 4 5 1 0;";
        for (int t = 0; t <= 60; t++) {
            where("six in a row", six, new int[0], t, (2 << Math.min(5, t)) - 1);
        }
    }

    /** Ten pairs at most; the tenth counts, the one behind n does not; they begin at i. */
    private static void whereTen() {
        int[] items = new int[40];
        for (int pair = 0; pair < 20; pair++) {
            items[2 * pair] = pair == 9 || pair == 19 ? 1 : 0;
            items[2 * pair + 1] = pair == 9 ? 60 : pair == 19 ? 5 : 0;
        }
        BirchLeaf x = told(PAIR, items);
        Checks.due(21, "nine", x.where(0, 0, 9, 60), 3);
        Checks.due(21, "the tenth, too", x.where(0, 0, 10, 60), 2);
        Checks.due(21, "eleven", x.where(0, 0, 11, 60), Checks.BAD);
        Checks.due(21, "the ten at the end", x.where(0, 20, 10, 5), 2);
        Checks.due(21, "nine of these", x.where(0, 20, 9, 5), 3);
        Checks.due(21, "the last alone", x.where(0, 38, 1, 5), 2);
        Checks.due(21, "none at the end", x.where(0, 40, 0, 5), 3);
        Checks.due(21, "none beyond the end", x.where(0, 41, 0, 5), Checks.PLACE);
        Checks.due(21, "ten beyond the end", x.where(0, 21, 10, 5), Checks.PLACE);
        Checks.due(21, "one beyond the end", x.where(0, 39, 1, 5), Checks.PLACE);
        Checks.due(21, "from an odd place: with 0 in 1", x.where(0, 17, 1, 5), 1);
    }

    /** By the DAWN that is now, whoever HAS it, in whatever MINUTE. */
    private static void whereDawn() {
        for (int dawn = 1; dawn <= 60; dawn++) {
            BirchLeaf x = told(PAIR, 1, 5, 0, 60);
            x.bribe(dawn);
            Checks.due(21, "dawn " + dawn, x.where(0, 0, 0, 60), dawn <= 5 ? 1 : 3);
            Checks.due(21, "with 1 in 5, dawn " + dawn, x.where(0, 0, 1, 60), dawn <= 5 ? 0 : dawn <= 10 ? 2 : 3);
            Checks.due(21, "and back, dawn " + dawn, x.where(0, 0, 2, 60), dawn <= 10 ? 0 : 1);
        }
        BirchLeaf y = told(PAIR, 1, 5);
        y.waits(7);
        y.pass(1);
        y.waits(20);
        Checks.due(21, "from 0 in 0 all the same", y.where(0, 0, 0, 0), 1);
        Checks.due(21, "ahead of what was done", y.where(0, 0, 1, 5), 2);
        String blind = "night 60 0;trader priest 1 0;trader blind 1 0;way 0 1 5 0;";
        for (int m = 0; m <= 20; m++) {
            where("a blind one told in " + m, blind, new int[] {1, m}, m, m < 6 ? 0 : 2);
            where("since the even one", blind, new int[] {0, 2, 1, m}, 60, m < 8 ? 0 : 3);
        }
    }
}
