/**
 * Fairy gold by morning: a leaf that is gold till the cock crows, and birch from then on.
 *
 * All arrays are made with the object and used again: no call makes an object.
 */
public final class BirchLeaf {
    public static final int NONE = -1000000, BAD = -1000001, STATE = -1000002, FULL = -1000003;

    private static final int FINDINGS = -1000010;
    private static final int NO_ROW = 1, NO_PLACE = 2, NOT_OF_KIND = 3, NO_SIZE = 4, OTHER_LANE = 5;
    private static final int FAULTS = -1000100;
    private static final int MISPLACED = 1, NOT_AS_TOLD = 2, NO_ROOM = 3;

    private static final int ROWS = 8, ITEMS = 40, LANES = 3, BYTES = 400;
    private static final int TRADERS = 6, WAYS = 10, PAIRS = 10, MINUTES = 60;
    private static final int ACTS = 24, TRACED = 16;
    private static final int ANY = 0, BAKER = 1, MILLER = 2, KNOWER = 3, PRIEST = 4, BLIND = 5;

    private final Rows rows = new Rows();
    private final Tape tape = new Tape();
    private final Hill hill = new Hill();
    private final Hill draft = new Hill();
    private final Hill firstImage = new Hill();
    private final Hill secondImage = new Hill();
    private final Acts acts = new Acts(hill);
    private final Foretold foretold = new Foretold(hill);
    private final Asks asks = new Asks(hill);
    private int finding;

    public BirchLeaf() {
    }

    // ---- rows

    public int row(int row, int lane, int n) {
        if (!isRow(row) || lane < 0 || lane >= LANES || n > ITEMS) {
            return BAD;
        }
        if (n < 0) {
            return find(NO_SIZE);
        }
        finding = 0;
        rows.make(row, lane, n);
        return n;
    }

    public int set(int row, int i, int v) {
        if (!isRow(row)) {
            return BAD;
        }
        int found = rows.lapse(row, i, 1);
        if (found != 0) {
            return find(found);
        }
        finding = 0;
        return rows.put(row, i, v);
    }

    public int copy(int a, int i, int b, int j, int n) {
        if (!isRow(a) || !isRow(b)) {
            return BAD;
        }
        int found = rows.lapseOfTwo(a, i, b, j, n);
        if (found != 0) {
            return find(found);
        }
        finding = 0;
        rows.move(a, i, b, j, n);
        return n;
    }

    public int drop(int row) {
        if (!isRow(row)) {
            return BAD;
        }
        if (rows.isMissing(row)) {
            return find(NO_ROW);
        }
        finding = 0;
        return rows.remove(row);
    }

    // ---- hills, nights

    public int feed(long w, int n) {
        return n < 1 || n > 8 ? BAD : tape.append(w, n);
    }

    public int hill() {
        int place = tape.readOnto(draft);
        if (place >= 0) {
            return FAULTS - place;
        }
        hill.become(draft);
        acts.forget();
        return hill.traders;
    }

    public int fault() {
        return tape.latestFault;
    }

    public int pass(int trader) {
        if (!hill.has(trader)) {
            return BAD;
        }
        int arrival = hill.handed(hill.holder, trader, hill.minute, hill.dawn);
        if (arrival == NONE) {
            return STATE;
        }
        acts.passTo(trader, arrival);
        return arrival;
    }

    public int waits(int n) {
        if (hill.isNone()) {
            return STATE;
        }
        if (n < 1 || n > MINUTES) {
            return BAD;
        }
        if (n > MINUTES - hill.minute) {
            return FULL;
        }
        acts.letPass(n);
        return hill.minute;
    }

    public int bribe(int d) {
        if (hill.isNone()) {
            return STATE;
        }
        if (d < 1 || d > MINUTES) {
            return BAD;
        }
        int before = hill.dawn;
        acts.moveDawn(d);
        return before;
    }

    public int undo() {
        return acts.takeBack() ? acts.kept : STATE;
    }

    public int trader(int trader, int what) {
        if (!hill.has(trader)) {
            return BAD;
        }
        switch (what) {
            case 0:
                return hill.gives[trader];
            case 1:
                return hill.tills[trader];
            case 2:
                return hill.price(trader);
            case 3:
                return hill.wins[trader];
            default:
                return BAD;
        }
    }

    public int takes(int trader, int t) {
        if (!hill.has(trader) || !isMinute(t)) {
            return BAD;
        }
        return hill.accepts(trader, t, hill.dawn) ? 1 : 0;
    }

    public int there(int a, int b, int t) {
        if (!hill.has(a) || !hill.has(b) || a == b || !isMinute(t)) {
            return BAD;
        }
        return hill.arrival(a, b, t);
    }

    // ---- foretold

    public int worth(int trader, int t) {
        return hill.has(trader) && isMinute(t) ? foretold.dearestFrom(trader, t) : BAD;
    }

    public int sure(int trader, int t) {
        return hill.has(trader) && isMinute(t) ? foretold.surelyFrom(trader, t) : BAD;
    }

    public int most(int trader, int t, int what) {
        if (!hill.has(trader) || !isMinute(t) || what < 0 || what > 1) {
            return BAD;
        }
        return what == 0 ? foretold.sumFrom(trader, t) : foretold.timesFrom(trader, t);
    }

    public int last(int what) {
        if (hill.isNone()) {
            return STATE;
        }
        if (what < 0 || what > 1) {
            return BAD;
        }
        foretold.runOut(hill.dawn);
        return what == 0 ? foretold.lastHolder : foretold.lastMinute;
    }

    public int crow(int trader) {
        return hill.has(trader) ? foretold.dawnFor(trader) : BAD;
    }

    public int where(int row, int i, int n, int t) {
        if (hill.isNone()) {
            return STATE;
        }
        if (!isRow(row) || n < 0 || n > PAIRS || !isMinute(t)) {
            return BAD;
        }
        int found = rows.lapse(row, i, 2 * n);
        if (found != 0) {
            return find(found);
        }
        foretold.forgetSeen();
        for (int pair = 0; pair < n; pair++) {
            int who = rows.item(row, i + 2 * pair);
            int minute = rows.item(row, i + 2 * pair + 1);
            if (!hill.has(who) || !isMinute(minute)) {
                return BAD;
            }
            foretold.noteSeen(who, minute);
        }
        finding = 0;
        return foretold.withWhom(t);
    }

    public int image(int k) {
        if (k < 0 || k > 1) {
            return BAD;
        }
        if (hill.isNone()) {
            return STATE;
        }
        imageOf(k).become(hill);
        return 1;
    }

    public int restore(int k) {
        if (k < 0 || k > 1) {
            return BAD;
        }
        if (imageOf(k).isNone()) {
            return STATE;
        }
        hill.become(imageOf(k));
        acts.forget();
        return 1;
    }

    // ---- asked

    public int kind(int trader) {
        return hill.has(trader) ? hill.kinds[trader] : BAD;
    }

    public int as(int trader, int kind) {
        if (!hill.has(trader) || kind < ANY || kind > BLIND) {
            return BAD;
        }
        if (!isOne(hill.kinds[trader], kind)) {
            return find(NOT_OF_KIND);
        }
        finding = 0;
        return trader;
    }

    public int ask(int trader, int what) {
        if (!hill.has(trader) || what < 0 || what > 1) {
            return BAD;
        }
        asks.begin();
        return what == 0 ? asks.size(trader) : asks.mark(trader);
    }

    public int trace(int i) {
        return i >= 0 && i < asks.length && i < TRACED ? asks.bodies[i] : NONE;
    }

    public int count(int what) {
        switch (what) {
            case 0:
                return rows.present();
            case 1:
                return hill.traders;
            case 2:
                return hill.ways;
            case 3:
                return hill.minute;
            case 4:
                return acts.kept;
            case 5:
                return hill.dawn;
            case 6:
                return hill.holder;
            case 7:
                return tape.length;
            default:
                return BAD;
        }
    }

    public int status() {
        return finding;
    }

    private int find(int number) {
        finding = number;
        return FINDINGS - number;
    }

    private Hill imageOf(int k) {
        return k == 0 ? firstImage : secondImage;
    }

    private static boolean isRow(int row) {
        return row >= 0 && row < ROWS;
    }

    private static boolean isMinute(int t) {
        return t >= 0 && t <= MINUTES;
    }

    private static boolean isOne(int kind, int asked) {
        switch (asked) {
            case ANY:
                return true;
            case BAKER:
                return kind == BAKER || kind == MILLER || kind == KNOWER;
            case PRIEST:
                return kind == PRIEST || kind == BLIND;
            default:
                return kind == asked;
        }
    }

    /** The ROWS; whoever calls has tested that a row's number is one. */
    private static final class Rows {
        /** One more than the LANE, so that a ROW is missing at first. */
        private final int[] stores = new int[ROWS];
        private final int[] sizes = new int[ROWS];
        private final int[] items = new int[ROWS * ITEMS];

        boolean isMissing(int row) {
            return stores[row] == 0;
        }

        int present() {
            int n = 0;
            for (int row = 0; row < ROWS; row++) {
                n += isMissing(row) ? 0 : 1;
            }
            return n;
        }

        void make(int row, int lane, int n) {
            stores[row] = lane + 1;
            sizes[row] = n;
            for (int i = 0; i < ITEMS; i++) {
                items[row * ITEMS + i] = 0;
            }
        }

        int remove(int row) {
            stores[row] = 0;
            return sizes[row];
        }

        /** What is found about n ITEMS from i on; 0: nothing. */
        int lapse(int row, int i, int n) {
            if (isMissing(row)) {
                return NO_ROW;
            }
            return holds(row, i, n) ? 0 : NO_PLACE;
        }

        int lapseOfTwo(int a, int i, int b, int j, int n) {
            if (isMissing(a) || isMissing(b)) {
                return NO_ROW;
            }
            if (stores[a] != stores[b]) {
                return OTHER_LANE;
            }
            return holds(a, i, n) && holds(b, j, n) ? 0 : NO_PLACE;
        }

        private boolean holds(int row, int i, int n) {
            // i + n could wrap around; with n tested first, sizes - n cannot.
            return i >= 0 && n >= 0 && i <= sizes[row] - n;
        }

        int item(int row, int i) {
            return items[row * ITEMS + i];
        }

        int put(int row, int i, int v) {
            int kept = stores[row] == 1 ? (byte) v : stores[row] == 2 ? (short) v : v;
            items[row * ITEMS + i] = kept;
            return kept;
        }

        void move(int a, int i, int b, int j, int n) {
            System.arraycopy(items, a * ITEMS + i, items, b * ITEMS + j, n);
        }
    }

    /** THE TAPE, and how a HILL is read from it. */
    private static final class Tape {
        private static final int END = 0, NAME = 1, NUMBER = 2, SIGN = 3, OTHER = 4;

        private final byte[] bytes = new byte[BYTES];
        private int length;
        /** The TOKEN read last: its first byte, the first one behind it, what it is. */
        private int start;
        private int end;
        private int token;
        private int value;
        /** Of the first FAULT in this reading; -1: none yet. */
        private int place;
        private int latestFault;

        int append(long w, int n) {
            if (n > BYTES - length) {
                return FULL;
            }
            for (int i = n - 1; i >= 0; i--) {
                bytes[length] = (byte) (w >>> (8 * i));
                length++;
            }
            return length;
        }

        /** Leaves the tape empty: the place of the first FAULT; -1: the HILL is read. */
        int readOnto(Hill to) {
            end = 0;
            place = -1;
            to.clear();
            readNight(to);
            boolean more = place < 0;
            for (int part = 0; more && part < BYTES; part++) {
                more = readPart(to);
            }
            length = 0;
            return place;
        }

        // What is read behind a FAULT is of no account: the first one stays, and nothing is kept.

        private void readNight(Hill to) {
            next();
            if (!isWord("night")) {
                fail(MISPLACED);
            }
            to.dawn = readNumber(1, MINUTES);
            to.water = readNumber(0, MINUTES);
            readSign();
        }

        private boolean readPart(Hill to) {
            next();
            if (token == END && to.traders > 0) {
                return false;
            }
            if (isWord("trader") && to.ways == 0) {
                readTrader(to);
            } else if (isWord("way") && to.traders > 0) {
                readWay(to);
            } else {
                fail(MISPLACED);
            }
            return place < 0;
        }

        private void readTrader(Hill to) {
            if (to.traders >= TRADERS) {
                fail(NO_ROOM);
                return;
            }
            int kind = readSort();
            int gives = readNumber(0, 99);
            int till = readNumber(0, MINUTES);
            readSign();
            if (place < 0) {
                to.addTrader(kind, gives, till);
            }
        }

        private void readWay(Hill to) {
            if (to.ways >= WAYS) {
                fail(NO_ROOM);
                return;
            }
            int a = readNumber(0, to.traders - 1);
            int b = readNumber(0, to.traders - 1);
            if (a == b) {
                fail(NOT_AS_TOLD);
            }
            int minutes = readNumber(1, 30);
            int wet = readNumber(0, 1);
            readSign();
            if (place < 0) {
                to.addWay(a, b, minutes, wet == 1);
            }
        }

        private int readSort() {
            next();
            int kind = isWord("baker") ? BAKER
                    : isWord("miller") ? MILLER
                    : isWord("knower") ? KNOWER
                    : isWord("priest") ? PRIEST
                    : isWord("blind") ? BLIND
                    : ANY;
            if (kind == ANY) {
                fail(MISPLACED);
            }
            return kind;
        }

        private int readNumber(int least, int greatest) {
            next();
            if (token != NUMBER) {
                fail(MISPLACED);
            } else if (value < least || value > greatest) {
                fail(NOT_AS_TOLD);
            }
            return value;
        }

        private void readSign() {
            next();
            if (token != SIGN) {
                fail(MISPLACED);
            }
        }

        private void fail(int number) {
            if (place < 0) {
                place = start;
                latestFault = number;
            }
        }

        private boolean isWord(String word) {
            if (token != NAME || end - start != word.length()) {
                return false;
            }
            for (int i = 0; i < word.length(); i++) {
                if (bytes[start + i] != word.charAt(i)) {
                    return false;
                }
            }
            return true;
        }

        private void next() {
            while (end < length && (bytes[end] == 32 || bytes[end] == 10)) {
                end++;
            }
            start = end;
            if (end >= length) {
                token = END;
            } else if (isLetter(bytes[end])) {
                token = NAME;
                while (end < length && isLetter(bytes[end])) {
                    end++;
                }
            } else if (isFigure(bytes[end])) {
                value = 0;
                while (end < length && isFigure(bytes[end])) {
                    value = 10 * value + bytes[end] - '0';
                    end++;
                }
                token = end - start > 3 ? OTHER : NUMBER;
            } else {
                token = bytes[end] == ';' ? SIGN : OTHER;
                end++;
            }
        }

        private static boolean isLetter(int b) {
            return b >= 'a' && b <= 'z';
        }

        private static boolean isFigure(int b) {
            return b >= '0' && b <= '9';
        }
    }

    /**
     * A HILL with the night as it stands; none while there are no TRADERS. Whoever calls has tested
     * that a trader's number is one (it came from has, or from a loop over the TRADERS).
     */
    private static final class Hill {
        private int traders;
        private int ways;
        private int dawn;
        private int water;
        private int minute;
        private int holder;
        private final int[] kinds = new int[TRADERS];
        private final int[] gives = new int[TRADERS];
        private final int[] tills = new int[TRADERS];
        private final int[] wins = new int[TRADERS];
        /**
         * Of each two the shortest ways; 0: none. If the shortest one over water can't be gone any
         * more, no longer one over water can.
         */
        private final int[] dry = new int[TRADERS * TRADERS];
        private final int[] wet = new int[TRADERS * TRADERS];

        boolean isNone() {
            return traders == 0;
        }

        boolean has(int trader) {
            return trader >= 0 && trader < traders;
        }

        void clear() {
            traders = 0;
            ways = 0;
            dawn = 0;
            water = 0;
            minute = 0;
            holder = 0;
            for (int pair = 0; pair < TRADERS * TRADERS; pair++) {
                dry[pair] = 0;
                wet[pair] = 0;
            }
        }

        void addTrader(int kind, int given, int till) {
            if (traders < TRADERS) {
                kinds[traders] = kind;
                gives[traders] = given;
                tills[traders] = till;
                wins[traders] = 0;
                traders++;
            }
        }

        void addWay(int a, int b, int minutes, boolean overWater) {
            if (has(a) && has(b)) {
                int[] shortest = overWater ? wet : dry;
                int known = shortest[a * TRADERS + b];
                int kept = known == 0 ? minutes : Math.min(known, minutes);
                shortest[a * TRADERS + b] = kept;
                shortest[b * TRADERS + a] = kept;
                ways++;
            }
        }

        void become(Hill other) {
            traders = other.traders;
            ways = other.ways;
            dawn = other.dawn;
            water = other.water;
            minute = other.minute;
            holder = other.holder;
            System.arraycopy(other.kinds, 0, kinds, 0, TRADERS);
            System.arraycopy(other.gives, 0, gives, 0, TRADERS);
            System.arraycopy(other.tills, 0, tills, 0, TRADERS);
            System.arraycopy(other.wins, 0, wins, 0, TRADERS);
            System.arraycopy(other.dry, 0, dry, 0, TRADERS * TRADERS);
            System.arraycopy(other.wet, 0, wet, 0, TRADERS * TRADERS);
        }

        int price(int trader) {
            return kinds[trader] == MILLER ? gives[trader] / 2 : gives[trader];
        }

        boolean accepts(int trader, int t, int cock) {
            if (t >= cock) {
                return false;
            }
            switch (kinds[trader]) {
                case BAKER:
                    return t <= tills[trader];
                case MILLER:
                    return t <= tills[trader] + 5;
                case KNOWER:
                    return t <= tills[trader] && cock - t >= 10;
                case BLIND:
                    return t % 2 == 0;
                default:
                    return true;
            }
        }

        int arrival(int from, int to, int t) {
            int byLand = dry[from * TRADERS + to];
            int byWater = wet[from * TRADERS + to];
            if (byWater > 0 && t + byWater <= water && (byLand == 0 || byWater < byLand)) {
                return t + byWater;
            }
            return byLand > 0 ? t + byLand : NONE;
        }

        /** When it is there, PASSED in t with that DAWN; NONE: it can't be. */
        int handed(int from, int to, int t, int cock) {
            int then = arrival(from, to, t);
            return then != NONE && accepts(to, then, cock) ? then : NONE;
        }
    }

    /** The ACTS on a HILL, and of the latest ones what was ahead of each. */
    private static final class Acts {
        private final Hill hill;
        private int kept;
        private int next;
        private final int[] minutes = new int[ACTS];
        private final int[] dawns = new int[ACTS];
        private final int[] givers = new int[ACTS];
        private final int[] takers = new int[ACTS];
        private final int[] paid = new int[ACTS];

        Acts(Hill hill) {
            this.hill = hill;
        }

        void forget() {
            kept = 0;
        }

        void passTo(int trader, int arrival) {
            int price = hill.price(trader);
            keep(trader, price);
            pay(trader, hill.holder, price);
            hill.holder = trader;
            hill.minute = arrival;
        }

        void letPass(int n) {
            keep(hill.holder, 0);
            hill.minute += n;
        }

        void moveDawn(int d) {
            keep(hill.holder, 0);
            hill.dawn = d;
        }

        /** Whether there was one to undo. */
        boolean takeBack() {
            if (kept == 0) {
                return false;
            }
            kept--;
            next = next > 0 ? next - 1 : ACTS - 1;
            pay(givers[next], takers[next], paid[next]);
            hill.minute = minutes[next];
            hill.dawn = dawns[next];
            hill.holder = givers[next];
            return true;
        }

        private void keep(int taker, int price) {
            minutes[next] = hill.minute;
            dawns[next] = hill.dawn;
            givers[next] = hill.holder;
            takers[next] = taker;
            paid[next] = price;
            next = next < ACTS - 1 ? next + 1 : 0;
            kept = Math.min(kept + 1, ACTS);
        }

        private void pay(int from, int to, int price) {
            hill.wins[from] -= price;
            hill.wins[to] += price;
        }
    }

    /** What is FORETOLD of a HILL; none of it changes the HILL. */
    private static final class Foretold {
        private static final int ALL = (1 << TRADERS) - 1;
        /**
         * A sum and how often it is PASSED for it are one number: so much for each coin, less 1 for
         * each time. It is never PASSED so often, as each time takes a MINUTE.
         */
        private static final int COIN = 64;

        private final Hill hill;
        private int lastHolder;
        private int lastMinute;
        /** By MINUTES, then TRADERS: the best that one having the leaf then can come to. */
        private final int[] best = new int[(MINUTES + 1) * TRADERS];
        /** By MINUTES, TRADERS as bits: with whom it may be, as told. */
        private final int[] told = new int[MINUTES + 1];
        /** With whom it can be, all being as told till then. */
        private final int[] came = new int[MINUTES + 1];
        /** With whom it may be for all to be as told from then on. */
        private final int[] goesOn = new int[MINUTES + 1];

        Foretold(Hill hill) {
            this.hill = hill;
        }

        int dearestFrom(int trader, int t) {
            int price = 0;
            for (int m = t; m <= MINUTES; m++) {
                int to = dearest(trader, m, hill.dawn);
                price = to == NONE ? price : Math.max(price, hill.price(to));
            }
            return price;
        }

        int surelyFrom(int trader, int t) {
            fillBest(t, true);
            return best[t * TRADERS + trader];
        }

        int sumFrom(int trader, int t) {
            fillBest(t, false);
            return coins(best[t * TRADERS + trader]);
        }

        int timesFrom(int trader, int t) {
            fillBest(t, false);
            int found = best[t * TRADERS + trader];
            return coins(found) * COIN - found;
        }

        private static int coins(int found) {
            return (found + COIN - 1) / COIN;
        }

        private void fillBest(int since, boolean surely) {
            for (int m = MINUTES; m >= since; m--) {
                for (int trader = 0; trader < hill.traders; trader++) {
                    best[m * TRADERS + trader] = bestOf(trader, m, surely);
                }
            }
        }

        private int bestOf(int trader, int m, boolean surely) {
            int found = m < MINUTES ? best[(m + 1) * TRADERS + trader] : 0;
            for (int to = 0; to < hill.traders; to++) {
                int then = hill.handed(trader, to, m, hill.dawn);
                if (then > m && then <= MINUTES) {
                    int after = best[then * TRADERS + to];
                    int price = hill.price(to);
                    int gain = !surely ? price * COIN - 1 + after : after >= price ? price : 0;
                    found = Math.max(found, gain);
                }
            }
            return found;
        }

        /** The first of those who give most for it in this MINUTE; NONE: nobody takes it. */
        private int dearest(int from, int t, int cock) {
            int found = NONE;
            for (int to = 0; to < hill.traders; to++) {
                boolean better = found == NONE || hill.price(to) > hill.price(found);
                if (better && hill.handed(from, to, t, cock) != NONE) {
                    found = to;
                }
            }
            return found;
        }

        void runOut(int cock) {
            lastHolder = hill.holder;
            lastMinute = hill.minute;
            // Each time takes a MINUTE, so it is PASSED less often than there are MINUTES.
            for (int times = 0; times < MINUTES; times++) {
                int to = dearest(lastHolder, lastMinute, cock);
                if (to == NONE) {
                    return;
                }
                lastMinute = hill.handed(lastHolder, to, lastMinute, cock);
                lastHolder = to;
            }
        }

        int dawnFor(int trader) {
            for (int cock = 1; cock <= MINUTES; cock++) {
                runOut(cock);
                if (lastHolder == trader) {
                    return cock;
                }
            }
            return NONE;
        }

        void forgetSeen() {
            for (int m = 0; m <= MINUTES; m++) {
                told[m] = ALL;
            }
        }

        void noteSeen(int trader, int m) {
            told[m] &= 1 << trader;
        }

        int withWhom(int t) {
            fillCame();
            fillGoesOn();
            return came[t] & goesOn[t];
        }

        private void fillCame() {
            for (int m = 1; m <= MINUTES; m++) {
                came[m] = 0;
            }
            came[0] = 1;
            for (int m = 0; m <= MINUTES; m++) {
                came[m] &= told[m];
                int until = nextTold(m);
                for (int trader = 0; trader < hill.traders; trader++) {
                    if ((came[m] >> trader & 1) != 0) {
                        goFrom(trader, m, until);
                    }
                }
            }
        }

        private void goFrom(int trader, int m, int until) {
            if (m < MINUTES) {
                came[m + 1] |= 1 << trader;
            }
            for (int to = 0; to < hill.traders; to++) {
                int then = hill.handed(trader, to, m, hill.dawn);
                if (then > m && then <= until) {
                    came[then] |= 1 << to;
                }
            }
        }

        private void fillGoesOn() {
            for (int m = MINUTES; m >= 0; m--) {
                int found = m < MINUTES ? goesOn[m + 1] : ALL;
                int until = nextTold(m);
                for (int trader = 0; trader < hill.traders; trader++) {
                    if (canGoOn(trader, m, until)) {
                        found |= 1 << trader;
                    }
                }
                goesOn[m] = found & told[m];
            }
        }

        private boolean canGoOn(int trader, int m, int until) {
            for (int to = 0; to < hill.traders; to++) {
                int then = hill.handed(trader, to, m, hill.dawn);
                if (then > m && then <= until && (goesOn[then] >> to & 1) != 0) {
                    return true;
                }
            }
            return false;
        }

        /** The MINUTE by which it must be off the way, as it is told with whom it is then. */
        private int nextTold(int m) {
            int until = m + 1;
            while (until < MINUTES && told[until] == ALL) {
                until++;
            }
            return Math.min(until, MINUTES);
        }
    }

    /**
     * ASKS: a function for each line of KINDS, with the BODIES that one of them runs through. SIZE
     * of BAKERS asks MARK of a BAKER, MARK of PRIESTS asks SIZE of a PRIEST: none comes back to itself.
     */
    private static final class Asks {
        private final Hill hill;
        private final int[] bodies = new int[TRACED];
        private int length;

        Asks(Hill hill) {
            this.hill = hill;
        }

        void begin() {
            length = 0;
        }

        private void enter(int body) {
            if (length < TRACED) {
                bodies[length] = body;
                length++;
            }
        }

        int size(int trader) {
            return isOne(hill.kinds[trader], BAKER) ? bakerSize(trader) : priestSize(trader);
        }

        int mark(int trader) {
            return isOne(hill.kinds[trader], BAKER) ? bakerMark(trader) : priestMark(trader);
        }

        private int bakerSize(int trader) {
            boolean miller = hill.kinds[trader] == MILLER;
            if (miller) {
                enter(12);
            }
            enter(11);
            enter(10);
            int size = hill.gives[trader] + bakerMark(trader);
            return miller ? 0 - size : size;
        }

        private int bakerMark(int trader) {
            boolean miller = hill.kinds[trader] == MILLER;
            boolean knower = hill.kinds[trader] == KNOWER;
            if (miller || knower) {
                enter(miller ? 24 : 22);
            }
            enter(21);
            enter(20);
            int mark = trader + hill.wins[trader];
            return miller ? 2 * mark : knower ? mark - 1000 : mark;
        }

        private int priestSize(int trader) {
            boolean blind = hill.kinds[trader] == BLIND;
            if (blind) {
                enter(14);
            }
            enter(13);
            enter(10);
            int size = hill.gives[trader] - 100;
            return blind ? 2 * size : size;
        }

        private int priestMark(int trader) {
            enter(23);
            enter(20);
            return trader - priestSize(trader);
        }
    }
}
