/** What is called ahead of a call that is looked at; Shown shows any change of what stands then. */
final class Stages {
    private Stages() {
    }

    static void nothing(BirchLeaf x) {
    }

    /** A hill with acts, an image of another one, rows, a trace, a fault, a finding; nothing on the tape. */
    static void much(BirchLeaf x) {
        Hills.read(x, "night 50 9;trader priest 7 0;trader blind 9 0;way 0 1 2 1;");
        x.pass(1);
        x.image(0);
        Hills.read(x, "night 0");
        Hills.read(x, Hills.FIVE);
        x.waits(1);
        x.pass(1);
        x.bribe(39);
        x.bribe(39);
        x.ask(3, 1);
        rows(x);
    }

    /** A hill that was read just now, the first of all. */
    static void first(BirchLeaf x) {
        Hills.read(x, Hills.FIVE);
    }

    private static void rows(BirchLeaf x) {
        fill(x, 0, 0, 1, 2, 3);
        fill(x, 1, 1, 4, 3, 2, 1);
        fill(x, 2, 2, 5, 1);
        fill(x, 3, 0);
        x.copy(0, 0, 1, 0, 1);
    }

    static void fill(BirchLeaf x, int row, int lane, int... items) {
        x.row(row, lane, items.length);
        for (int i = 0; i < items.length; i++) {
            x.set(row, i, items[i]);
        }
    }

    /** As much, with the beginning of a hill on the tape. */
    static void taped(BirchLeaf x) {
        much(x);
        Hills.feed(x, "night 6");
    }

    /** As much, with so many bytes on the tape, a hill among them. */
    static Twins.Ahead bytes(int n) {
        return x -> {
            much(x);
            Hills.feed(x, Hills.ALONE + Hills.times(" ", n - Hills.ALONE.length()));
        };
    }

    /** As taped, in another minute. */
    static Twins.Ahead minute(int m) {
        return x -> {
            taped(x);
            x.waits(m - x.count(3));
        };
    }
}
