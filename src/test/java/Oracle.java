import java.nio.charset.StandardCharsets;
import java.util.ArrayDeque;
import java.util.ArrayList;
import java.util.Arrays;
import java.util.Deque;
import java.util.HashMap;
import java.util.List;
import java.util.Map;
import java.util.TreeMap;

/**
 * The document once more, written another way and as slowly as it likes: states are copied, foretold
 * things are looked up by recursion from the trader on, ways stay a list.
 */
final class Oracle {
    private static final int NONE = -1000000, BAD = -1000001, STATE = -1000002, FULL = -1000003, FOUND = -1000010;
    private static final List<String> SORTS = List.of("trader", "baker", "miller", "knower", "priest", "blind");
    private static final int[] PARENTS = {-1, 0, 1, 1, 0, 4};

    private record One(String sort, int gives, int till) {
    }

    private record Way(int a, int b, int minutes, boolean wet) {
        boolean joins(int from, int to) {
            return a == from && b == to || a == to && b == from;
        }
    }

    private record Night(List<One> traders, List<Way> ways, int water, int dawn, int minute, int holder, List<Integer> wins) {
        Night with(int newDawn, int newMinute, int newHolder, List<Integer> newWins) {
            return new Night(traders, ways, water, newDawn, newMinute, newHolder, newWins);
        }
    }

    private static final class Fault extends RuntimeException {
        private static final long serialVersionUID = 1;
        final int place;
        final int number;

        Fault(int place, int number) {
            super(null, null, false, false);
            this.place = place;
            this.number = number;
        }
    }

    private record Token(int place, String text) {
    }

    private final int[][] rows = new int[8][];
    private final int[] lanes = new int[8];
    private final List<Byte> tape = new ArrayList<>();
    private Night night;
    private final Deque<Night> acts = new ArrayDeque<>();
    private final Night[] images = new Night[2];
    private List<Integer> trace = new ArrayList<>();
    private int latestFault;
    private int finding;

    private int find(int number) {
        finding = number;
        return FOUND - number;
    }

    private int fine(int answer) {
        finding = 0;
        return answer;
    }

    private static boolean within(int v, int least, int greatest) {
        return least <= v && v <= greatest;
    }

    int row(int row, int lane, int n) {
        if (!within(row, 0, 7) || !within(lane, 0, 2) || n > 40) {
            return BAD;
        }
        if (n < 0) {
            return find(4);
        }
        rows[row] = new int[n];
        lanes[row] = lane;
        return fine(n);
    }

    int set(int row, int i, int v) {
        if (!within(row, 0, 7)) {
            return BAD;
        }
        if (rows[row] == null) {
            return find(1);
        }
        if (!within(i, 0, rows[row].length - 1)) {
            return find(2);
        }
        int spare = 32 - (8 << lanes[row]);
        rows[row][i] = v << spare >> spare;
        return fine(rows[row][i]);
    }

    int copy(int a, int i, int b, int j, int n) {
        if (!within(a, 0, 7) || !within(b, 0, 7)) {
            return BAD;
        }
        if (rows[a] == null || rows[b] == null) {
            return find(1);
        }
        if (lanes[a] != lanes[b]) {
            return find(5);
        }
        if (i < 0 || j < 0 || n < 0 || (long) i + n > rows[a].length || (long) j + n > rows[b].length) {
            return find(2);
        }
        int[] ahead = rows[a].clone();
        for (int k = 0; k < n; k++) {
            rows[b][j + k] = ahead[i + k];
        }
        return fine(n);
    }

    int drop(int row) {
        if (!within(row, 0, 7)) {
            return BAD;
        }
        if (rows[row] == null) {
            return find(1);
        }
        int had = rows[row].length;
        rows[row] = null;
        return fine(had);
    }

    int feed(long w, int n) {
        if (!within(n, 1, 8)) {
            return BAD;
        }
        if (tape.size() + n > 400) {
            return FULL;
        }
        for (int i = n - 1; i >= 0; i--) {
            tape.add((byte) (w >> 8 * i));
        }
        return tape.size();
    }

    private List<Token> tokens(String text) {
        List<Token> all = new ArrayList<>();
        java.util.regex.Matcher m = java.util.regex.Pattern.compile("[a-z]+|[0-9]+|[ \n]+|.", java.util.regex.Pattern.DOTALL)
                .matcher(text);
        while (m.find()) {
            if (m.group().trim().length() > 0 || !m.group().matches("[ \n]+")) {
                all.add(new Token(m.start(), m.group()));
            }
        }
        all.add(new Token(text.length(), ""));
        return all;
    }

    private static void word(Token t, String... any) {
        if (!Arrays.asList(any).contains(t.text)) {
            throw new Fault(t.place, 1);
        }
    }

    private static int number(Token t, int least, int greatest) {
        if (!t.text.matches("[0-9]{1,3}")) {
            throw new Fault(t.place, 1);
        }
        int v = Integer.parseInt(t.text);
        if (!within(v, least, greatest)) {
            throw new Fault(t.place, 2);
        }
        return v;
    }

    private Night parse(String text) {
        Deque<Token> left = new ArrayDeque<>(tokens(text));
        // Behind the end there is nothing but the end.
        Token end = left.peekLast();
        for (int i = 0; i < 9; i++) {
            left.add(end);
        }
        word(left.poll(), "night");
        int dawn = number(left.poll(), 1, 60);
        int water = number(left.poll(), 0, 60);
        word(left.poll(), ";");
        List<One> traders = new ArrayList<>();
        List<Way> ways = new ArrayList<>();
        while (true) {
            Token t = left.poll();
            if (t.text.isEmpty() && !traders.isEmpty()) {
                break;
            }
            boolean trader = t.text.equals("trader") && ways.isEmpty();
            boolean way = t.text.equals("way") && !traders.isEmpty();
            if (!trader && !way) {
                throw new Fault(t.place, 1);
            }
            if (trader && traders.size() == 6 || way && ways.size() == 10) {
                throw new Fault(t.place, 3);
            }
            if (trader) {
                word(left.peek(), "baker", "miller", "knower", "priest", "blind");
                traders.add(new One(left.poll().text, number(left.poll(), 0, 99), number(left.poll(), 0, 60)));
            } else {
                int a = number(left.poll(), 0, traders.size() - 1);
                Token second = left.poll();
                int b = number(second, 0, traders.size() - 1);
                if (a == b) {
                    throw new Fault(second.place, 2);
                }
                ways.add(new Way(a, b, number(left.poll(), 1, 30), number(left.poll(), 0, 1) == 1));
            }
            word(left.poll(), ";");
        }
        Integer[] none = new Integer[traders.size()];
        Arrays.fill(none, 0);
        return new Night(traders, ways, water, dawn, 0, 0, List.of(none));
    }

    int hill() {
        byte[] bytes = new byte[tape.size()];
        for (int i = 0; i < bytes.length; i++) {
            bytes[i] = tape.get(i);
        }
        tape.clear();
        try {
            night = parse(new String(bytes, StandardCharsets.ISO_8859_1));
        } catch (Fault f) {
            latestFault = f.number;
            return -1000100 - f.place;
        }
        acts.clear();
        return night.traders.size();
    }

    int fault() {
        return latestFault;
    }

    private boolean is(int trader) {
        return night != null && within(trader, 0, night.traders.size() - 1);
    }

    private int price(int trader) {
        One one = night.traders.get(trader);
        return one.sort.equals("miller") ? one.gives / 2 : one.gives;
    }

    private boolean accepts(int trader, int t, int dawn) {
        One one = night.traders.get(trader);
        boolean gold = t < dawn;
        switch (one.sort) {
            case "baker":
                return gold && t <= one.till;
            case "miller":
                return gold && t - one.till <= 5;
            case "knower":
                return gold && t <= one.till && dawn >= t + 10;
            case "priest":
                return gold;
            default:
                return gold && (t & 1) == 0;
        }
    }

    private int arrival(int a, int b, int t) {
        return night.ways.stream().filter(w -> w.joins(a, b)).filter(w -> !w.wet || t + w.minutes <= night.water)
                .mapToInt(w -> t + w.minutes).min().orElse(NONE);
    }

    /** Who can have it of him in this minute, and when. */
    private Map<Integer, Integer> hands(int from, int t, int dawn) {
        Map<Integer, Integer> all = new TreeMap<>();
        for (int to = 0; to < night.traders.size(); to++) {
            int then = to == from ? NONE : arrival(from, to, t);
            if (then != NONE && accepts(to, then, dawn)) {
                all.put(to, then);
            }
        }
        return all;
    }

    private void act(Night next) {
        acts.push(night);
        if (acts.size() > 24) {
            acts.removeLast();
        }
        night = next;
    }

    int pass(int trader) {
        if (!is(trader)) {
            return BAD;
        }
        Integer then = hands(night.holder, night.minute, night.dawn).get(trader);
        if (then == null) {
            return STATE;
        }
        List<Integer> wins = new ArrayList<>(night.wins);
        wins.set(night.holder, wins.get(night.holder) + price(trader));
        wins.set(trader, wins.get(trader) - price(trader));
        act(night.with(night.dawn, then, trader, wins));
        return then;
    }

    int waits(int n) {
        if (night == null) {
            return STATE;
        }
        if (!within(n, 1, 60)) {
            return BAD;
        }
        if (night.minute + n > 60) {
            return FULL;
        }
        act(night.with(night.dawn, night.minute + n, night.holder, night.wins));
        return night.minute;
    }

    int bribe(int d) {
        if (night == null) {
            return STATE;
        }
        if (!within(d, 1, 60)) {
            return BAD;
        }
        int was = night.dawn;
        act(night.with(d, night.minute, night.holder, night.wins));
        return was;
    }

    int undo() {
        if (acts.isEmpty()) {
            return STATE;
        }
        night = acts.pop();
        return acts.size();
    }

    int trader(int trader, int what) {
        if (!is(trader) || !within(what, 0, 3)) {
            return BAD;
        }
        One one = night.traders.get(trader);
        return List.of(one.gives, one.till, price(trader), night.wins.get(trader)).get(what);
    }

    int takes(int trader, int t) {
        return !is(trader) || !within(t, 0, 60) ? BAD : accepts(trader, t, night.dawn) ? 1 : 0;
    }

    int there(int a, int b, int t) {
        return !is(a) || !is(b) || a == b || !within(t, 0, 60) ? BAD : arrival(a, b, t);
    }

    int worth(int trader, int t) {
        if (!is(trader) || !within(t, 0, 60)) {
            return BAD;
        }
        int best = 0;
        for (int m = t; m <= 60; m++) {
            for (int to : hands(trader, m, night.dawn).keySet()) {
                best = Math.max(best, price(to));
            }
        }
        return best;
    }

    int sure(int trader, int t) {
        return is(trader) && within(t, 0, 60) ? sureOf(trader, t, new HashMap<>()) : BAD;
    }

    private int sureOf(int trader, int t, Map<Integer, Integer> known) {
        Integer had = known.get(trader * 100 + t);
        if (had != null) {
            return had;
        }
        int best = 0;
        for (int m = t; m <= 60; m++) {
            for (Map.Entry<Integer, Integer> hand : hands(trader, m, night.dawn).entrySet()) {
                if (sureOf(hand.getKey(), hand.getValue(), known) >= price(hand.getKey())) {
                    best = Math.max(best, price(hand.getKey()));
                }
            }
        }
        known.put(trader * 100 + t, best);
        return best;
    }

    int most(int trader, int t, int what) {
        return is(trader) && within(t, 0, 60) && within(what, 0, 1) ? mostOf(trader, t, new HashMap<>())[what] : BAD;
    }

    private int[] mostOf(int trader, int t, Map<Integer, int[]> known) {
        int[] had = known.get(trader * 100 + t);
        if (had != null) {
            return had;
        }
        int[] best = {0, 0};
        for (int m = t; m <= 60; m++) {
            for (Map.Entry<Integer, Integer> hand : hands(trader, m, night.dawn).entrySet()) {
                int[] after = mostOf(hand.getKey(), hand.getValue(), known);
                int sum = after[0] + price(hand.getKey());
                int times = after[1] + 1;
                if (sum > best[0] || sum == best[0] && times < best[1]) {
                    best = new int[] {sum, times};
                }
            }
        }
        known.put(trader * 100 + t, best);
        return best;
    }

    private int[] lastOf(int holder, int minute, int dawn) {
        int best = -1;
        int then = 0;
        for (Map.Entry<Integer, Integer> hand : hands(holder, minute, dawn).entrySet()) {
            if (best < 0 || price(hand.getKey()) > price(best)) {
                best = hand.getKey();
                then = hand.getValue();
            }
        }
        return best < 0 ? new int[] {holder, minute} : lastOf(best, then, dawn);
    }

    int last(int what) {
        return night == null ? STATE : within(what, 0, 1) ? lastOf(night.holder, night.minute, night.dawn)[what] : BAD;
    }

    int crow(int trader) {
        if (!is(trader)) {
            return BAD;
        }
        for (int dawn = 1; dawn <= 60; dawn++) {
            if (lastOf(night.holder, night.minute, dawn)[0] == trader) {
                return dawn;
            }
        }
        return NONE;
    }

    int where(int row, int i, int n, int t) {
        if (night == null) {
            return STATE;
        }
        if (!within(row, 0, 7) || !within(n, 0, 10) || !within(t, 0, 60)) {
            return BAD;
        }
        if (rows[row] == null) {
            return find(1);
        }
        if (i < 0 || (long) i + 2 * n > rows[row].length) {
            return find(2);
        }
        List<int[]> told = new ArrayList<>();
        for (int k = i; k < i + 2 * n; k += 2) {
            if (!is(rows[row][k]) || !within(rows[row][k + 1], 0, 60)) {
                return BAD;
            }
            told.add(new int[] {rows[row][k], rows[row][k + 1]});
        }
        int bits = 0;
        for (int trader = 0; trader < night.traders.size(); trader++) {
            List<int[]> more = new ArrayList<>(told);
            more.add(new int[] {trader, t});
            bits |= stays(0, 0, 0, more, new HashMap<>()) ? 1 << trader : 0;
        }
        return fine(bits);
    }

    /** Whether he who has it since a minute can have kept it till another one, and all went on as told. */
    private boolean stays(int trader, int since, int till, List<int[]> told, Map<Integer, Boolean> known) {
        for (int[] one : told) {
            if (within(one[1], since, till) && one[0] != trader) {
                return false;
            }
        }
        if (till == 60) {
            return true;
        }
        // All up to here is as told, so since when he has it is no matter for what follows.
        Boolean had = known.get(trader * 100 + till);
        if (had == null) {
            had = stays(trader, till, till + 1, told, known);
            for (Map.Entry<Integer, Integer> hand : hands(trader, till, night.dawn).entrySet()) {
                boolean unseen = told.stream().noneMatch(one -> within(one[1], till + 1, hand.getValue() - 1));
                had = had || unseen && stays(hand.getKey(), hand.getValue(), hand.getValue(), told, known);
            }
            known.put(trader * 100 + till, had);
        }
        return had;
    }

    int image(int k) {
        if (!within(k, 0, 1)) {
            return BAD;
        }
        if (night == null) {
            return STATE;
        }
        images[k] = night;
        return 1;
    }

    int restore(int k) {
        if (!within(k, 0, 1)) {
            return BAD;
        }
        if (images[k] == null) {
            return STATE;
        }
        night = images[k];
        acts.clear();
        return 1;
    }

    int kind(int trader) {
        return is(trader) ? SORTS.indexOf(night.traders.get(trader).sort) : BAD;
    }

    private boolean isOne(int trader, int kind) {
        for (int k = kind(trader); k >= 0; k = PARENTS[k]) {
            if (k == kind) {
                return true;
            }
        }
        return false;
    }

    int as(int trader, int kind) {
        if (!is(trader) || !within(kind, 0, 5)) {
            return BAD;
        }
        return isOne(trader, kind) ? fine(trader) : find(3);
    }

    int ask(int trader, int what) {
        if (!is(trader) || !within(what, 0, 1)) {
            return BAD;
        }
        trace = new ArrayList<>();
        return what == 0 ? size(trader) : mark(trader);
    }

    private int size(int trader) {
        return body(new int[] {10, 11, 12, 11, 13, 14}[kind(trader)], trader);
    }

    private int mark(int trader) {
        return body(new int[] {20, 21, 24, 22, 23, 23}[kind(trader)], trader);
    }

    private int body(int number, int trader) {
        trace.add(number);
        switch (number) {
            case 10:
                return night.traders.get(trader).gives;
            case 11:
                return body(10, trader) + mark(trader);
            case 12:
                return -body(11, trader);
            case 13:
                return body(10, trader) - 100;
            case 14:
                return 2 * body(13, trader);
            case 20:
                return trader;
            case 21:
                return body(20, trader) + night.wins.get(trader);
            case 22:
                return body(21, trader) - 1000;
            case 23:
                return body(20, trader) - size(trader);
            default:
                return 2 * body(21, trader);
        }
    }

    int trace(int i) {
        return within(i, 0, Math.min(16, trace.size()) - 1) ? trace.get(i) : NONE;
    }

    int count(int what) {
        int made = 0;
        for (int[] row : rows) {
            made += row == null ? 0 : 1;
        }
        boolean none = night == null;
        int[] all = {made, none ? 0 : night.traders.size(), none ? 0 : night.ways.size(), none ? 0 : night.minute,
            acts.size(), none ? 0 : night.dawn, none ? 0 : night.holder, tape.size()};
        return within(what, 0, 7) ? all[what] : BAD;
    }

    int status() {
        return finding;
    }
}
