/** Counts the checks of one test's run, by promise, and prints those that fail. */
final class Checks {
    static final int NONE = -1000000, BAD = -1000001, STATE = -1000002, FULL = -1000003;
    static final int NULL = -1000011, PLACE = -1000012, KIND = -1000013, SIZE = -1000014, STORE = -1000015;
    static final int PROMISES = 29;

    private static final int[] made = new int[PROMISES + 1];
    private static int wrong = 0;

    private Checks() {
    }

    static void due(int promise, String what, long got, long want) {
        made[promise]++;
        if (got != want) {
            wrong++;
            System.out.println("promise " + promise + ": " + what + " answered " + got + ", due is " + want);
        }
    }

    static void that(String what, boolean holds) {
        made[0]++;
        if (!holds) {
            wrong++;
            System.out.println("not so: " + what);
        }
    }

    static boolean has(int promise) {
        return made[promise] > 0;
    }

    /** Ends the run: the exit code tells whether all checks held. */
    static void end(String name) {
        int all = 0;
        for (int n : made) {
            all += n;
        }
        System.out.println(name + ": " + all + " checks, " + wrong + " wrong");
        if (wrong != 0 || all == 0) {
            System.exit(1);
        }
    }
}
