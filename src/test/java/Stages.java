/** What is called ahead of a call that is looked at; Shown shows any change of what stands then. */
final class Stages {
    private Stages() {
    }

    static void nothing(BirchLeaf x) {
    }

    /** All that there can be without a hill: rows, a fault, a finding, a part of a hill on the tape. */
    static void bare(BirchLeaf x) {
        Hills.read(x, "night 0");
        rows(x);
        x.copy(0, 0, 1, 0, 1);
        Hills.feed(x, "night 6");
    }

    /** A hill with acts, an image of another one, rows, a trace, a fault, a finding; nothing on the tape. */
    static void much(BirchLeaf x) {
        before(x);
        Hills.read(x, "night 0");
        night(x);
        rows(x);
        x.copy(0, 0, 1, 0, 1);
    }

    /** As much, but that no copy and no hill was refused; another finding. */
    static void taken(BirchLeaf x) {
        before(x);
        night(x);
        rows(x);
        x.as(0, 5);
    }

    private static void before(BirchLeaf x) {
        Hills.read(x, "night 50 9;trader priest 7 0;trader blind 9 0;way 0 1 2 1;");
        x.pass(1);
        x.image(0);
    }

    private static void night(BirchLeaf x) {
        Hills.read(x, Hills.FIVE);
        x.waits(1);
        x.pass(1);
        x.bribe(39);
        x.bribe(39);
        x.ask(3, 1);
    }

    private static void rows(BirchLeaf x) {
        fill(x, 0, 0, 1, 2, 3);
        fill(x, 1, 1, 4, 3, 2, 1);
        fill(x, 2, 2, 5, 1);
        fill(x, 3, 0);
    }

    /** A hill that was read just now, the first of all. */
    static void first(BirchLeaf x) {
        Hills.read(x, Hills.FIVE);
    }

    static void fill(BirchLeaf x, int row, int lane, int... items) {
        x.row(row, lane, items.length);
        for (int i = 0; i < items.length; i++) {
            x.set(row, i, items[i]);
        }
    }

    /** As much, with the beginning of a hill on the tape. */
    static void taped(BirchLeaf x) {
        much(x);
        Hills.feed(x, "night 6");
    }

    /** As taken, with the beginning of a hill on the tape. */
    static void takenTaped(BirchLeaf x) {
        taken(x);
        Hills.feed(x, "night 6");
    }

    /** As much, with so many bytes on the tape, a hill among them. */
    static Twins.Ahead bytes(int n) {
        return x -> {
            much(x);
            Hills.feed(x, Hills.ALONE + Hills.times(" ", n - Hills.ALONE.length()));
        };
    }

    /** As taped, in another minute. */
    static Twins.Ahead minute(int m) {
        return x -> {
            taped(x);
            x.waits(m - x.count(3));
        };
    }
}
