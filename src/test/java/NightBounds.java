import java.util.ArrayList;
import java.util.List;

/** Section 2, promises 9 to 15, 22 and 23: each boundary from both sides. */
final class NightBounds {
    private static final int LEAST = Integer.MIN_VALUE, GREATEST = Integer.MAX_VALUE;
    private static final String[] SORTS = {"baker", "miller", "knower", "priest", "blind"};

    private NightBounds() {
    }

    static void run() {
        traderRefused();
        prices();
        takesRefused();
        takesByMinute();
        thereRefused();
        thereByMinute();
        thereByWays();
        passRefused();
        passWhenTaken();
        passByWater();
        wins();
        waitsRefused();
        waitsByMinute();
        bribeRefused();
        bribes();
        undoRefused();
        undoesEach();
        oldestForgotten();
        actsGoRound();
        noActs();
        imageRefused();
        imageKeeps();
        imageOfSix();
        restoreRefused();
        restoreLeaves();
    }

    private static void traderRefused() {
        Twins.Ahead much = Stages::taped;
        for (int what = 0; what <= 3; what++) {
            int w = what;
            Twins.refused(13, "trader below 0, what " + w, much, x -> x.trader(-1, w), Checks.BAD);
            Twins.refused(13, "trader 5 of 5, what " + w, much, x -> x.trader(5, w), Checks.BAD);
        }
        Twins.refused(13, "trader 6", much, x -> x.trader(6, 0), Checks.BAD);
        Twins.refused(13, "what below 0", much, x -> x.trader(0, -1), Checks.BAD);
        Twins.refused(13, "what 4", much, x -> x.trader(0, 4), Checks.BAD);
        Twins.refused(13, "what far", much, x -> x.trader(0, GREATEST), Checks.BAD);
        Twins.refused(13, "trader far", much, x -> x.trader(LEAST, 0), Checks.BAD);
        for (int traders = 1; traders <= 6; traders++) {
            BirchLeaf x = Hills.with("night 9 9;" + Hills.times("trader priest 8 7;", traders));
            Checks.due(13, "the last of " + traders, x.trader(traders - 1, 0), 8);
            Checks.due(13, "none behind " + traders, x.trader(traders, 0), Checks.BAD);
        }
        int[][] shows = {{20, 30, 20, 15}, {31, 25, 15, -15}, {9, 60, 9, 0}, {5, 0, 5, 0}, {14, 10, 14, 0}};
        for (int trader = 0; trader < shows.length; trader++) {
            for (int what = 0; what <= 3; what++) {
                int one = trader;
                int w = what;
                Twins.only(13, "told, nothing changes", much, x -> x.trader(one, w), shows[one][w]);
            }
        }
    }

    /** GIVES; of a miller half of it, cut. */
    private static void prices() {
        for (int gives = 0; gives <= 99; gives++) {
            for (String sort : SORTS) {
                BirchLeaf x = Hills.with("night 9 9;trader " + sort + " " + gives + " 5;");
                Checks.due(13, "gives", x.trader(0, 0), gives);
                Checks.due(13, "price of a " + sort + " who gives " + gives, x.trader(0, 2),
                        sort.equals("miller") ? (gives - gives % 2) / 2 : gives);
            }
        }
    }

    private static void takesRefused() {
        Twins.Ahead much = Stages::taped;
        Twins.refused(14, "trader below 0", much, x -> x.takes(-1, 0), Checks.BAD);
        Twins.refused(14, "trader 5 of 5", much, x -> x.takes(5, 0), Checks.BAD);
        Twins.refused(14, "t below 0", much, x -> x.takes(3, -1), Checks.BAD);
        Twins.refused(14, "t 61", much, x -> x.takes(3, 61), Checks.BAD);
        Twins.refused(14, "t far", much, x -> x.takes(3, GREATEST), Checks.BAD);
        Twins.refused(14, "t far below", much, x -> x.takes(3, LEAST), Checks.BAD);
        Twins.only(14, "asked, nothing changes", much, x -> x.takes(3, 0), 1);
        Twins.only(14, "in 60, nothing changes", much, x -> x.takes(3, 60), 0);
    }

    private static boolean due(int sort, int till, int dawn, int t) {
        switch (sort) {
            case 0:
                return t < dawn && t <= till;
            case 1:
                return t < dawn && t <= till + 5;
            case 2:
                return t + 10 <= dawn && t <= till;
            case 3:
                return t < dawn;
            default:
                return t < dawn && t % 2 == 0;
        }
    }

    /** Each sort in each MINUTE, with each DAWN, with a TILL at either end and about DAWN. */
    private static void takesByMinute() {
        for (int dawn = 1; dawn <= 60; dawn++) {
            for (int till : new int[] {0, 1, 9, 54, 55, 56, 59, 60, dawn, dawn - 1, Math.max(0, dawn - 6), dawn / 2}) {
                StringBuilder text = new StringBuilder("night " + dawn + " 0;");
                for (String sort : SORTS) {
                    text.append("trader ").append(sort).append(" 7 ").append(till).append(";");
                }
                BirchLeaf x = Hills.with(text.toString());
                for (int t = 0; t <= 60; t++) {
                    for (int sort = 0; sort < 5; sort++) {
                        Checks.due(14, SORTS[sort] + " till " + till + " in " + t + ", dawn " + dawn, x.takes(sort, t),
                                due(sort, till, dawn, t) ? 1 : 0);
                    }
                }
            }
        }
    }

    private static void thereRefused() {
        Twins.Ahead much = Stages::taped;
        Twins.refused(15, "a below 0", much, x -> x.there(-1, 0, 0), Checks.BAD);
        Twins.refused(15, "a 5 of 5", much, x -> x.there(5, 0, 0), Checks.BAD);
        Twins.refused(15, "b below 0", much, x -> x.there(0, -1, 0), Checks.BAD);
        Twins.refused(15, "b 5 of 5", much, x -> x.there(0, 5, 0), Checks.BAD);
        Twins.refused(15, "alike", much, x -> x.there(0, 0, 0), Checks.BAD);
        Twins.refused(15, "alike, the last", much, x -> x.there(4, 4, 0), Checks.BAD);
        Twins.refused(15, "t below 0", much, x -> x.there(0, 1, -1), Checks.BAD);
        Twins.refused(15, "t 61", much, x -> x.there(0, 1, 61), Checks.BAD);
        Twins.refused(15, "t far", much, x -> x.there(0, 1, LEAST), Checks.BAD);
        Twins.refused(15, "t 61, no way", much, x -> x.there(0, 2, 61), Checks.BAD);
        Twins.only(15, "no way, nothing changes", much, x -> x.there(0, 2, 0), Checks.NONE);
        Twins.only(15, "in 0, nothing changes", much, x -> x.there(0, 1, 0), 3);
        Twins.only(15, "in 60, nothing changes", much, x -> x.there(1, 0, 60), 65);
    }

    /** Over water only if one is there in MINUTE WATER or ahead of it. */
    private static void thereByMinute() {
        for (int water = 0; water <= 60; water += 3) {
            BirchLeaf x = Hills.with("night 1 " + water + ";" + Hills.times("trader priest 1 1;", 3)
                    + "way 0 1 4 1;way 1 0 9 0;way 1 2 30 1;");
            for (int t = 0; t <= 60; t++) {
                Checks.due(15, "in " + t + ", water " + water, x.there(0, 1, t), t + 4 <= water ? t + 4 : t + 9);
                Checks.due(15, "back in " + t + ", water " + water, x.there(1, 0, t), t + 4 <= water ? t + 4 : t + 9);
                Checks.due(15, "water alone in " + t + ", water " + water, x.there(2, 1, t),
                        t + 30 <= water ? t + 30 : Checks.NONE);
                Checks.due(15, "not over others in " + t, x.there(0, 2, t), Checks.NONE);
            }
        }
    }

    /** The shortest of all that may be gone, in whatever order they are told. */
    private static void thereByWays() {
        String[] ways = {"way 0 1 7 0;", "way 1 0 5 0;", "way 0 1 6 1;", "way 1 0 3 1;", "way 0 1 4 1;", "way 1 0 9 0;"};
        for (int set = 1; set < 64; set++) {
            for (int turn = 0; turn < 2; turn++) {
                StringBuilder text = new StringBuilder("night 1 20;trader priest 1 1;trader priest 1 1;");
                for (int i = 0; i < 6; i++) {
                    int way = turn == 0 ? i : 5 - i;
                    text.append((set >> way & 1) != 0 ? ways[way] : "");
                }
                BirchLeaf x = Hills.with(text.toString());
                for (int t = 12; t <= 20; t++) {
                    int due = Checks.NONE;
                    for (int way = 0; way < 6; way++) {
                        int there = t + ways[way].charAt(8) - '0';
                        boolean gone = (set >> way & 1) != 0 && (ways[way].charAt(10) == '0' || there <= 20);
                        due = gone && (due == Checks.NONE || there < due) ? there : due;
                    }
                    Checks.due(15, "in " + t + " by " + text, x.there(turn, 1 - turn, t), due);
                }
            }
        }
    }

    private static void passRefused() {
        Twins.Ahead much = Stages::taped;
        Twins.refused(9, "trader below 0", much, x -> x.pass(-1), Checks.BAD);
        Twins.refused(9, "trader 5 of 5", much, x -> x.pass(5), Checks.BAD);
        Twins.refused(9, "trader 6", much, x -> x.pass(6), Checks.BAD);
        Twins.refused(9, "trader far", much, x -> x.pass(GREATEST), Checks.BAD);
        Twins.refused(9, "trader far below", much, x -> x.pass(LEAST), Checks.BAD);
        Twins.refused(9, "he has it", much, x -> x.pass(1), Checks.STATE);
        Twins.refused(9, "no way", much, x -> x.pass(3), Checks.STATE);
        Twins.refused(9, "he has it at first", Stages::first, x -> x.pass(0), Checks.STATE);
        Twins.refused(9, "dawn by", Stages.minute(60), x -> x.pass(0), Checks.STATE);
        Twins.refused(9, "dawn by, to himself", Stages.minute(60), x -> x.pass(1), Checks.STATE);
        Twins.refused(9, "dawn by, no such one", Stages.minute(60), x -> x.pass(5), Checks.BAD);
    }

    /** Whether he TAKES it is asked of the MINUTE when it is there: 5 MINUTES behind the one when it is passed. */
    private static void passWhenTaken() {
        int[] tills = {25, 25, 33, 0, 0};
        for (int sort = 0; sort < 5; sort++) {
            String hill = "night 40 0;trader priest 3 0;trader " + SORTS[sort] + " 20 " + tills[sort] + ";way 0 1 5 0;";
            for (int m = 0; m <= 60; m++) {
                int from = m;
                Twins.Ahead ahead = x -> {
                    Hills.read(x, hill);
                    if (from > 0) {
                        x.waits(from);
                    }
                };
                boolean taken = due(sort, tills[sort], 40, m + 5);
                String what = SORTS[sort] + " from " + m;
                if (!taken) {
                    Twins.refused(9, what, ahead, x -> x.pass(1), Checks.STATE);
                } else {
                    BirchLeaf x = new BirchLeaf();
                    ahead.on(x);
                    Checks.due(9, what, x.pass(1), m + 5);
                    Checks.due(9, "minute becomes that", x.count(3), m + 5);
                    Checks.due(9, "he has it", x.count(6), 1);
                    Checks.due(9, "he wins the price", x.trader(0, 3), sort == 1 ? 10 : 20);
                    Checks.due(9, "and he loses it", x.trader(1, 3), sort == 1 ? -10 : -20);
                    Checks.due(9, "an act more", x.count(4), m > 0 ? 2 : 1);
                }
            }
        }
    }

    private static void passByWater() {
        String hill = "night 60 20;trader priest 3 0;trader priest 4 0;way 0 1 6 1;";
        for (int m = 1; m <= 30; m++) {
            int from = m;
            for (String land : new String[] {"", "way 1 0 9 0;"}) {
                Twins.Ahead ahead = x -> {
                    Hills.read(x, hill + land);
                    x.waits(from);
                };
                if (m + 6 > 20 && land.isEmpty()) {
                    Twins.refused(9, "no water from " + m, ahead, x -> x.pass(1), Checks.STATE);
                } else {
                    BirchLeaf x = new BirchLeaf();
                    ahead.on(x);
                    Checks.due(9, "from " + m + " by " + land, x.pass(1), m + 6 <= 20 ? m + 6 : m + 9);
                }
            }
        }
        BirchLeaf x = Hills.with("night 30 60;trader priest 3 0;trader blind 4 0;way 0 1 3 1;way 0 1 4 0;");
        Checks.due(9, "the shortest way, also if he would take it by another", x.pass(1), Checks.STATE);
    }

    /** WINS can be below 0; each wins what the other one loses. */
    private static void wins() {
        BirchLeaf x = Hills.with("night 60 0;trader priest 99 0;trader priest 98 0;way 0 1 1 0;");
        int[] due = {0, 0};
        for (int m = 1; m < 60; m++) {
            int to = m % 2;
            Checks.due(9, "passed", x.pass(to), m);
            due[1 - to] += 99 - to;
            due[to] -= 99 - to;
            Checks.due(13, "wins of 0", x.trader(0, 3), due[0]);
            Checks.due(13, "wins of 1", x.trader(1, 3), due[1]);
        }
        Checks.due(9, "dawn", x.pass(0), Checks.STATE);
        BirchLeaf free = Hills.with("night 60 0;trader priest 0 0;trader miller 1 9;way 0 1 1 0;");
        Checks.due(9, "for nothing", free.pass(1), 1);
        Checks.due(13, "wins nothing", free.trader(0, 3), 0);
        Checks.due(13, "loses nothing", free.trader(1, 3), 0);
        Checks.due(9, "has it all the same", free.count(6), 1);
    }

    private static void waitsRefused() {
        for (int n : new int[] {-1, 0, 1, 60, 61, LEAST, GREATEST}) {
            Twins.refused(10, "no hill ahead of all: " + n, Stages::bare, x -> x.waits(n), Checks.STATE);
        }
        for (int n : new int[] {-1, 0, 61, 62, LEAST, GREATEST}) {
            Twins.refused(10, "BAD " + n, Stages::taped, x -> x.waits(n), Checks.BAD);
            Twins.refused(10, "BAD ahead of FULL " + n, Stages.minute(60), x -> x.waits(n), Checks.BAD);
        }
        Twins.refused(10, "1 in 60", Stages.minute(60), x -> x.waits(1), Checks.FULL);
        Twins.refused(10, "60 in 60", Stages.minute(60), x -> x.waits(60), Checks.FULL);
        Twins.refused(10, "2 in 59", Stages.minute(59), x -> x.waits(2), Checks.FULL);
        Twins.refused(10, "31 in 30", Stages.minute(30), x -> x.waits(31), Checks.FULL);
        Twins.refused(10, "60 in 4", Stages::taped, x -> x.waits(60), Checks.FULL);
    }

    /** 60 is the last MINUTE. */
    private static void waitsByMinute() {
        for (int m = 0; m <= 60; m++) {
            BirchLeaf x = Hills.with(Hills.ALONE);
            if (m > 0) {
                Checks.due(10, "to " + m, x.waits(m), m);
            }
            for (int n = 1; n <= 60; n++) {
                Checks.due(10, n + " from " + m, x.waits(n), m + n <= 60 ? m + n : Checks.FULL);
                if (m + n <= 60) {
                    x.undo();
                }
                Checks.due(10, "minute", x.count(3), m);
            }
        }
        BirchLeaf y = Hills.with(Hills.FIVE);
        y.pass(1);
        y.waits(2);
        Checks.due(10, "nobody else has it", y.count(6), 1);
        Checks.due(10, "dawn stays", y.count(5), 40);
        Checks.due(10, "wins stay", y.trader(0, 3), 15);
        Checks.due(10, "an act", y.count(4), 2);
    }

    private static void bribeRefused() {
        for (int d : new int[] {-1, 0, 1, 60, 61, LEAST, GREATEST}) {
            Twins.refused(11, "no hill ahead of all: " + d, Stages::bare, x -> x.bribe(d), Checks.STATE);
        }
        for (int d : new int[] {-1, 0, 61, LEAST, GREATEST}) {
            Twins.refused(11, "BAD " + d, Stages::taped, x -> x.bribe(d), Checks.BAD);
            Twins.refused(11, "BAD " + d + " in 60", Stages.minute(60), x -> x.bribe(d), Checks.BAD);
        }
    }

    private static void bribes() {
        BirchLeaf x = Hills.with(Hills.FIVE);
        int was = 40;
        for (int d = 1; d <= 60; d++) {
            Checks.due(11, "to " + d, x.bribe(d), was);
            Checks.due(11, "dawn " + d, x.count(5), d);
            Checks.due(11, "also the same again", x.bribe(d), d);
            Checks.due(11, "an act each", x.count(4), Math.min(24, 2 * d));
            was = d;
        }
        Checks.due(11, "and down again", x.bribe(1), 60);
        Checks.due(11, "minute stays", x.count(3), 0);
        Checks.due(11, "who has it stays", x.count(6), 0);
        BirchLeaf y = Hills.with("night 5 0;trader priest 1 1;trader priest 1 1;way 0 1 5 0;");
        Checks.due(11, "not ahead of dawn", y.pass(1), Checks.STATE);
        Checks.due(11, "later", y.bribe(6), 5);
        Checks.due(11, "ahead of it", y.pass(1), 5);
        Checks.due(11, "ahead of the minute", y.bribe(1), 6);
    }

    private static void undoRefused() {
        Twins.refused(12, "no hill", Stages::bare, x -> x.undo(), Checks.STATE);
        Twins.refused(12, "no act yet", Stages::first, x -> x.undo(), Checks.STATE);
        Twins.refused(12, "behind a restore", x -> {
            Stages.taped(x);
            x.restore(0);
        }, x -> x.undo(), Checks.STATE);
        Twins.refused(12, "behind a hill", x -> {
            Stages.much(x);
            Hills.read(x, Hills.ROUND);
        }, x -> x.undo(), Checks.STATE);
        Twins.refused(12, "all undone", x -> {
            Stages.taped(x);
            for (int i = 0; i < 4; i++) {
                x.undo();
            }
        }, x -> x.undo(), Checks.STATE);
    }

    /** An act and its undoing leave all as it was. */
    private static void undone(String what, Twins.Ahead ahead, Twins.Call act, int answers, int left) {
        Twins.as(12, what, x -> {
            ahead.on(x);
            Checks.due(12, what, act.on(x), answers);
        }, x -> x.undo(), left, ahead);
    }

    private static void undoesEach() {
        undone("a passing", Stages::taped, x -> x.pass(0), 7, 4);
        undone("minutes", Stages::taped, x -> x.waits(1), 5, 4);
        undone("minutes to the last", Stages::taped, x -> x.waits(56), 60, 4);
        undone("a bribe", Stages::taped, x -> x.bribe(1), 39, 4);
        undone("a bribe by which nothing becomes another", Stages::taped, x -> x.bribe(39), 39, 4);
        undone("the first passing", Stages::first, x -> x.pass(1), 3, 0);
        undone("the first minutes", Stages::first, x -> x.waits(60), 60, 0);
        undone("the first bribe", Stages::first, x -> x.bribe(60), 40, 0);
        Twins.as(12, "the latest first", Stages::taped, x -> {
            x.waits(1);
            x.bribe(50);
            Checks.due(12, "the bribe", x.undo(), 5);
            Checks.due(12, "the minute stays yet", x.count(3), 5);
            return x.undo();
        }, 4, Stages::taped);
    }

    private static void acts(BirchLeaf x, int n) {
        for (int i = 0; i < n; i++) {
            x.bribe(1 + i);
        }
    }

    private static void undoAll(BirchLeaf x) {
        for (int i = 0; i < 30; i++) {
            x.undo();
        }
    }

    /** 24 are kept; of more the oldest is forgotten, of whatever kind it is. */
    private static void oldestForgotten() {
        for (int n = 20; n <= 60; n++) {
            BirchLeaf x = Hills.with(Hills.FIVE);
            acts(x, n);
            int kept = Math.min(24, n);
            Checks.due(12, "kept of " + n, x.count(4), kept);
            for (int left = kept - 1; left >= 0; left--) {
                Checks.due(12, "yet of " + n, x.undo(), left);
                Checks.due(28, "as many", x.count(4), left);
                int undone = n - kept + left;
                Checks.due(12, "dawn then", x.count(5), undone == 0 ? 40 : undone);
            }
            Checks.due(12, "none of " + n, x.undo(), Checks.STATE);
            Checks.due(12, "dawn stays", x.count(5), n <= 24 ? 40 : n - 24);
        }
        for (int more = 23; more <= 24; more++) {
            BirchLeaf x = Hills.with(Hills.FIVE);
            x.pass(1);
            acts(x, more);
            undoAll(x);
            Checks.due(12, "a passing is the oldest of " + (more + 1), x.count(6), more == 23 ? 0 : 1);
            Checks.due(12, "its wins", x.trader(0, 3), more == 23 ? 0 : 15);
            Checks.due(12, "its minute", x.count(3), more == 23 ? 0 : 3);
            BirchLeaf y = Hills.with(Hills.FIVE);
            y.waits(7);
            acts(y, more);
            undoAll(y);
            Checks.due(12, "minutes are the oldest of " + (more + 1), y.count(3), more == 23 ? 0 : 7);
        }
    }

    private static int[] night(BirchLeaf x) {
        return new int[] {x.count(3), x.count(5), x.count(6), x.trader(1, 3)};
    }

    /** Acts of all kinds and undoings by turns, again and again, against a list of all that stood ahead of each. */
    private static void actsGoRound() {
        for (int seed = 1; seed <= 40; seed++) {
            BirchLeaf x = Hills.with("night 60 0;trader priest 5 0;trader priest 9 0;way 0 1 1 0;");
            List<int[]> ahead = new ArrayList<>();
            for (int step = 0; step < 50; step++) {
                int chance = (seed * 31 + step * step * 7 + step) % 8;
                int[] now = night(x);
                boolean undoes = chance < 2 && step % 7 > 2 || step > 25 && step < 32;
                int answer = undoes ? x.undo()
                        : chance < 5 ? x.pass(1 - x.count(6)) : chance < 7 ? x.bribe(60 - step % 3) : x.waits(1);
                if (undoes) {
                    int left = ahead.size() - 1;
                    Checks.due(12, "left, seed " + seed, answer, left < 0 ? Checks.STATE : left);
                    int[] was = left < 0 ? now : ahead.remove(left);
                    int[] is = night(x);
                    for (int k = 0; k < is.length; k++) {
                        Checks.due(12, "as it was, " + k + ", seed " + seed, is[k], was[k]);
                    }
                } else if (answer >= 0) {
                    ahead.add(now);
                    if (ahead.size() > 24) {
                        ahead.remove(0);
                    }
                }
                Checks.due(28, "acts, seed " + seed, x.count(4), ahead.size());
            }
        }
    }

    /** What is no ACT, or is refused, is none to undo. */
    private static void noActs() {
        BirchLeaf x = new BirchLeaf();
        Stages.much(x);
        Twins.Call[] calls = {y -> y.image(0), y -> y.pass(1), y -> y.pass(9), y -> y.waits(0), y -> y.waits(60),
            y -> y.bribe(0), y -> y.bribe(61), y -> y.crow(0), y -> y.last(0), y -> y.worth(0, 0), y -> y.most(0, 0, 0),
            y -> y.where(0, 0, 0, 9), y -> y.hill(), y -> y.restore(1), y -> y.restore(2), y -> y.ask(0, 0),
            y -> y.as(0, 1), y -> y.row(5, 0, 5), y -> y.drop(5), y -> y.feed('x', 1)};
        for (int call = 0; call < calls.length; call++) {
            calls[call].on(x);
            Checks.due(12, "no act by call " + call, x.count(4), 4);
        }
        Checks.due(12, "the latest is the second bribe yet", x.undo(), 3);
        Checks.due(12, "the first stands", x.count(5), 39);
    }

    private static void imageRefused() {
        for (int k : new int[] {-1, 2, 3, LEAST, GREATEST}) {
            Twins.refused(22, "image " + k, Stages::taped, x -> x.image(k), Checks.BAD);
            Twins.refused(22, "BAD ahead of no hill, " + k, Stages::bare, x -> x.image(k), Checks.BAD);
        }
        Twins.refused(22, "no hill, 0", Stages::bare, x -> x.image(0), Checks.STATE);
        Twins.refused(22, "no hill, 1", Stages::bare, x -> x.image(1), Checks.STATE);
    }

    private static void imageKeeps() {
        for (int k = 0; k < 2; k++) {
            int image = k;
            Twins.as(22, "kept and there again, all but the acts " + k, Stages::taped, x -> {
                x.image(image);
                x.image(1 - image);
                x.pass(0);
                x.bribe(60);
                x.waits(9);
                return x.restore(image);
            }, 1, x -> {
                Stages.taped(x);
                x.image(image);
                x.image(1 - image);
                x.restore(1 - image);
            });
            Twins.as(22, "an image is the hill's of then, whatever is read " + k, Stages::much, x -> {
                x.image(image);
                Hills.read(x, Hills.ROUND);
                x.pass(1);
                Hills.read(x, "night 99");
                Hills.read(x, Hills.TWO);
                x.restore(image);
                x.pass(0);
                x.undo();
                return x.restore(image);
            }, 1, x -> {
                Stages.much(x);
                x.image(image);
                Hills.read(x, "night 99");
                x.restore(image);
            });
        }
        BirchLeaf x = Hills.with(Hills.FIVE);
        Checks.due(22, "an image", x.image(1), 1);
        x.pass(1);
        Checks.due(22, "in place of the one before", x.image(1), 1);
        x.restore(1);
        Checks.due(22, "the later one", x.count(6), 1);
        Checks.due(22, "the other is none yet", x.restore(0), Checks.STATE);
        Twins.as(22, "in place of image 0, nothing else changes", Stages::taped, y -> {
            y.image(1);
            y.restore(0);
            return y.restore(1);
        }, 1, y -> {
            Stages.taped(y);
            y.image(1);
            y.restore(1);
        });
    }

    /** All of six traders, each with ways by land and by water, and with WINS of his own. */
    private static void imageOfSix() {
        String hill = "night 50 40;trader priest 10 0;trader blind 20 1;trader miller 31 60;trader knower 40 60;"
                + "trader baker 50 59;trader priest 60 5;";
        for (int turn = 0; turn < 6; turn++) {
            StringBuilder ways = new StringBuilder(hill);
            for (int i = 0; i < 6; i++) {
                int b = (i + 1) % 6;
                ways.append(i == turn ? "" : "way " + i + " " + b + " " + (i + 2) + " " + (i + turn) % 2 + ";");
            }
            ways.append("way 5 1 8 1;way 5 2 8 0;way 5 3 9 1;way 0 5 4 0;");
            Twins.Ahead ahead = x -> {
                Hills.read(x, ways.toString());
                Checks.due(9, "to the sixth", x.pass(5), 4);
                x.bribe(49);
                x.image(0);
                x.image(1);
            };
            Twins.as(22, "six, " + turn, ahead, x -> {
                Checks.due(9, "from the sixth", x.pass(1), 12);
                Checks.due(13, "he wins", x.trader(5, 3), -60 + 20);
                Hills.read(x, Hills.TWO);
                return x.restore(0);
            }, 1, x -> {
                ahead.on(x);
                x.restore(1);
            });
            Twins.as(22, "six, undone by turns, " + turn, ahead, x -> {
                x.pass(2);
                return x.restore(1);
            }, 1, x -> {
                ahead.on(x);
                x.restore(0);
            });
        }
    }

    private static void restoreRefused() {
        for (int k : new int[] {-1, 2, 3, LEAST, GREATEST}) {
            Twins.refused(23, "restore " + k, Stages::taped, x -> x.restore(k), Checks.BAD);
            Twins.refused(23, "BAD ahead of none kept, " + k, Stages::bare, x -> x.restore(k), Checks.BAD);
        }
        Twins.refused(23, "image 1 is none", Stages::taped, x -> x.restore(1), Checks.STATE);
        Twins.refused(23, "image 0 is none", Stages::first, x -> x.restore(0), Checks.STATE);
        Twins.refused(23, "image 1 is none of a first hill", Stages::first, x -> x.restore(1), Checks.STATE);
    }

    /** Rows, the tape, the trace, the fault, the finding stay; the acts are none. */
    private static void restoreLeaves() {
        BirchLeaf x = new BirchLeaf();
        Stages.taped(x);
        Checks.due(23, "as image 0 kept it", x.restore(0), 1);
        int[] counts = {4, 2, 1, 2, 0, 50, 1, 7};
        for (int what = 0; what < counts.length; what++) {
            Checks.due(23, "count " + what, x.count(what), counts[what]);
        }
        Checks.due(23, "wins", x.trader(0, 3), 9);
        Checks.due(23, "losses", x.trader(1, 3), -9);
        Checks.due(23, "no trader of the other hill", x.trader(2, 0), Checks.BAD);
        Checks.due(23, "its water", x.there(0, 1, 7), 9);
        Checks.due(23, "its water's end", x.there(0, 1, 8), Checks.NONE);
        Checks.due(23, "no act", x.undo(), Checks.STATE);
        Checks.due(23, "the finding stays", x.status(), 5);
        Checks.due(23, "the fault stays", x.fault(), 2);
        Checks.due(23, "the trace stays", x.trace(0), 23);
        Checks.due(23, "again", x.restore(0), 1);
        Checks.due(23, "an act on it", x.waits(1), 3);
        Checks.due(23, "is one", x.undo(), 0);
    }
}
