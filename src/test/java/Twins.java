/**
 * Two objects with the same calls behind them: one of them is called once more, and both are looked
 * at whole. What is refused, or found, changes nothing but status().
 */
final class Twins {
    interface Ahead {
        void on(BirchLeaf x);
    }

    interface Call {
        int on(BirchLeaf x);
    }

    private Twins() {
    }

    /** It is refused, or found, so, and no other call shows that it was made; status() tells a finding. */
    static void refused(int promise, String what, Ahead ahead, Call call, int want) {
        if (want <= Checks.NULL && want >= Checks.STORE) {
            but(promise, what, ahead, call, want, "status", Checks.NULL + 1 - want);
        } else {
            only(promise, what, ahead, call, want);
        }
    }

    /** It answers so, and no other call shows that it was made. */
    static void only(int promise, String what, Ahead ahead, Call call, int want) {
        as(promise, what, ahead, call, want, ahead);
    }

    /** It answers so, and all is then as what another one shows. */
    static void as(int promise, String what, Ahead ahead, Call call, int want, Ahead other) {
        compare(promise, what, ahead, call, want, other, null, 0);
    }

    /** As only, but for one label that shows something else. */
    static void but(int promise, String what, Ahead ahead, Call call, int want, String label, int shows) {
        compare(promise, what, ahead, call, want, ahead, label, shows);
    }

    private static void compare(int promise, String what, Ahead ahead, Call call, int want, Ahead other, String label,
            int shows) {
        for (int first = 0; first < Shown.PARTS; first++) {
            BirchLeaf x = new BirchLeaf();
            ahead.on(x);
            Checks.due(promise, what, call.on(x), want);
            Shown shown = label == null ? Shown.of(x, first) : Shown.keptFirst(x, first);
            BirchLeaf y = new BirchLeaf();
            other.on(y);
            Shown due = label == null ? Shown.of(y, first) : Shown.keptFirst(y, first);
            if (label != null) {
                due.become(label, shows);
            }
            if (!shown.isAs(due)) {
                Checks.due(promise, what + ", by what other calls show: " + shown.unlike(due), 1, 0);
            }
        }
    }
}
