import java.util.Map;
import java.util.TreeMap;

/**
 * Two objects with the same calls behind them: one of them is called once more, and both are looked
 * at whole. What is refused, or found, changes nothing but status().
 */
final class Twins {
    interface Ahead {
        void on(BirchLeaf x);
    }

    interface Call {
        int on(BirchLeaf x);
    }

    private Twins() {
    }

    /** It is refused, or found, so, and no other call shows that it was made; status() tells a finding. */
    static void refused(int promise, String what, Ahead ahead, Call call, int want) {
        Map<String, Integer> due = untouched(ahead);
        if (want <= Checks.NULL && want >= Checks.STORE) {
            due.put("status", Checks.NULL + 1 - want);
        }
        compare(promise, what, ahead, call, want, due);
    }

    /** It answers so, and no other call shows that it was made. */
    static void only(int promise, String what, Ahead ahead, Call call, int want) {
        compare(promise, what, ahead, call, want, untouched(ahead));
    }

    /** It answers so, and all is then as what another one shows. */
    static void as(int promise, String what, Ahead ahead, Call call, int want, Ahead other) {
        compare(promise, what, ahead, call, want, untouched(other));
    }

    /** As refused, but for one label that shows something else. */
    static void but(int promise, String what, Ahead ahead, Call call, int want, String label, int shows) {
        Map<String, Integer> due = untouched(ahead);
        due.put(label, shows);
        compare(promise, what, ahead, call, want, due);
    }

    static Map<String, Integer> untouched(Ahead ahead) {
        BirchLeaf y = new BirchLeaf();
        ahead.on(y);
        return Shown.of(y);
    }

    private static void compare(int promise, String what, Ahead ahead, Call call, int want, Map<String, Integer> due) {
        BirchLeaf x = new BirchLeaf();
        ahead.on(x);
        Checks.due(promise, what, call.on(x), want);
        same(promise, what, Shown.of(x), due);
    }

    static void same(int promise, String what, Map<String, Integer> shown, Map<String, Integer> due) {
        Map<String, String> other = new TreeMap<>();
        for (String label : due.keySet()) {
            if (!due.get(label).equals(shown.get(label))) {
                other.put(label, shown.get(label) + " for " + due.get(label));
            }
        }
        for (String label : shown.keySet()) {
            if (!due.containsKey(label)) {
                other.put(label, shown.get(label) + " for none");
            }
        }
        Checks.due(promise, what + "; what other calls show of it: " + other, other.size(), 0);
    }
}
