import java.util.ArrayList;
import java.util.Arrays;
import java.util.List;

/** Section 1's TEXTS and FAULTS, promises 6 to 8: each boundary from both sides. */
final class TapeBounds {
    /** A hill with each part of the grammar, and what can stand at each of its TOKENS: words, or a NUMBER's bounds. */
    private static final String[] WHOLE = {"night", "60", "60", ";", "trader", "baker", "99", "60", ";",
        "trader", "miller", "0", "0", ";", "way", "0", "1", "30", "1", ";", "way", "1", "0", "1", "0", ";"};
    private static final String SORT = "baker miller knower priest blind";
    private static final String[] STANDS = {"night", "1 60", "0 60", ";", "trader", SORT, "0 99", "0 60", ";",
        "trader way", SORT, "0 99", "0 60", ";", "trader way", "0 1", "0 1", "1 30", "0 1", ";", "way", "0 1", "0 1",
        "1 30", "0 1", ";"};
    private static final String[] POOL = {"night", "trader", "way", "baker", "miller", "knower", "priest", "blind",
        "nigh", "nights", "nightz", "nighta", "znight", "anight", "traderz", "tradera", "wayz", "waya", "zway", "bakerz",
        "priesta", "zblind", "traders", "trade", "ways", "wa", "bakers", "bake", "blinds", "a", "z", ";", "0", "1", "2", "30",
        "31", "60", "61", "99", "100", "999", "000", "001", "061", "1000", "0000", "0001", "99999999999999999999",
        "-1", "+1", ":", ",", ".", "A", "Z", "Night", "`", "{", "/", "@", "[", "\t", "\r", "\u000b", "\u001f", "!",
        "\u0000", "\u0080", "\u00a0", "\u00e9", "\u00ff", "\u008a", "\u00b0"};
    private static final String NIGHT = "night 60 60;";

    private TapeBounds() {
    }

    static void run() {
        feedRefused();
        feedFull();
        feedBytes();
        tapeEmptied();
        wrongTokens();
        cutOff();
        standing();
        blanks();
        noBlanks();
        figures();
        bounds();
        wayBounds();
        traderRoom();
        wayRoom();
        leastOfOneToken();
        firstToken();
        faultsLeave();
        hillStands();
        sixBehindSix();
        latestFault();
    }

    private static void feedRefused() {
        for (int bytes : new int[] {0, 7}) {
            Twins.Ahead ahead = bytes == 0 ? Stages::much : Stages::taped;
            for (int n : new int[] {0, 9, -1, 16, Integer.MAX_VALUE, Integer.MIN_VALUE}) {
                Twins.refused(6, n + " bytes behind " + bytes, ahead, x -> x.feed(0x2020202020202020L, n), Checks.BAD);
            }
        }
        for (int n : new int[] {0, 9, -1}) {
            Twins.refused(6, "BAD ahead of FULL, " + n, Stages.bytes(400), x -> x.feed(0, n), Checks.BAD);
        }
    }

    private static void feedFull() {
        for (int n = 1; n <= 8; n++) {
            int bytes = n;
            for (int over = 1; over <= n; over++) {
                Twins.refused(6, n + " bytes, " + over + " over 400", Stages.bytes(400 - n + over),
                        x -> x.feed(0x6161616161616161L, bytes), Checks.FULL);
            }
            BirchLeaf x = new BirchLeaf();
            Stages.bytes(400 - n).on(x);
            Checks.due(6, n + " to 400", x.feed(0x2020202020202020L, n), 400);
            Checks.due(28, "400 bytes", x.count(7), 400);
            Checks.due(7, "read with the 400th", x.hill(), 1);
        }
        BirchLeaf y = new BirchLeaf();
        Stages.bytes(399).on(y);
        Checks.due(6, "the 400th is one of the tape", y.feed('x', 1), 400);
        Checks.due(7, "it is read, too", y.hill(), -1000100 - 399);
    }

    /** Each number of bytes, with others above them in w; each byte counts, also one that is none of a text. */
    private static void feedBytes() {
        byte[] text = Hills.TWO.getBytes(java.nio.charset.StandardCharsets.ISO_8859_1);
        for (int n = 1; n <= 8; n++) {
            for (long above : new long[] {0, -1, 0x7878787878787878L}) {
                BirchLeaf x = new BirchLeaf();
                int fed = 0;
                while (fed < text.length) {
                    int part = Math.min(n, text.length - fed);
                    long w = above;
                    for (int i = 0; i < part; i++) {
                        w = w << 8 | text[fed + i];
                    }
                    fed += part;
                    Checks.due(6, "by " + n, x.feed(w, part), fed);
                }
                Checks.due(6, "read, fed by " + n, x.hill(), 2);
            }
        }
        for (int b = 0; b < 256; b++) {
            BirchLeaf x = new BirchLeaf();
            boolean gap = b == 32 || b == 10;
            Checks.due(6, "byte " + b, x.feed(b, 1), 1);
            Checks.due(7, "a gap alone is no fault: " + b, Hills.read(x, "night"), gap ? -1000106 : -1000100);
        }
    }

    private static void tapeEmptied() {
        BirchLeaf x = new BirchLeaf();
        for (int round = 0; round < 2; round++) {
            Hills.feed(x, Hills.times(" ", 400));
            Checks.due(6, "full", x.feed(32, 1), Checks.FULL);
            Checks.due(7, "none but gaps", x.hill(), -1000500);
            Checks.due(7, "empty behind a fault", x.count(7), 0);
            Checks.due(7, "none there", x.hill(), -1000100);
            Hills.feed(x, NIGHT + "trader blind 1 1;" + Hills.times("\n", 371));
            Checks.due(6, "full again", x.feed(32, 1), Checks.FULL);
            Checks.due(7, "a hill", x.hill(), 1);
            Checks.due(7, "empty behind a hill", x.count(7), 0);
            Checks.due(7, "none there either", x.hill(), -1000100);
        }
    }

    private static int read(String text, int fault, String what) {
        BirchLeaf x = new BirchLeaf();
        int answer = Hills.read(x, text);
        Checks.due(8, "fault of " + what + ": " + text, x.fault(), fault);
        Checks.due(7, "tape behind " + what + ": " + text, x.count(7), 0);
        if (answer < 0) {
            Checks.due(7, "no hill by " + what + ": " + text, x.count(1), 0);
        }
        return answer;
    }

    private static void fault(String text, int place, int number, String what) {
        Checks.due(7, "place of " + what + ": " + text, read(text, number, what), -1000100 - place);
    }

    private static void fine(String text, int traders, String what) {
        Checks.due(7, what + ": " + text, read(text, 0, what), traders);
    }

    private static String join(String[] tokens, int n, String gap) {
        StringBuilder text = new StringBuilder();
        for (int i = 0; i < n; i++) {
            text.append(tokens[i]).append(gap);
        }
        return text.toString();
    }

    /** Each word of a hill with each of its letters another one, with none, with one more. */
    private static List<String> likeWords() {
        List<String> likes = new ArrayList<>();
        for (String word : ("night trader way " + SORT).split(" ")) {
            for (int i = 0; i < word.length(); i++) {
                char sign = word.charAt(i);
                String ahead = word.substring(0, i);
                String behind = word.substring(i + 1);
                likes.add(ahead + (sign == 'z' ? 'a' : (char) (sign + 1)) + behind);
                likes.add(ahead + (sign == 'a' ? 'z' : (char) (sign - 1)) + behind);
                likes.add(ahead + behind);
                likes.add(ahead + sign + sign + behind);
            }
        }
        return likes;
    }

    /** The least FAULT of a token there; 0: none. */
    private static int due(String stands, String token, boolean secondOfWay) {
        if (!Character.isDigit(stands.charAt(0))) {
            return Arrays.asList(stands.split(" ")).contains(token) ? 0 : 1;
        }
        if (!token.matches("[0-9]{1,3}")) {
            return 1;
        }
        String[] ends = stands.split(" ");
        int v = Integer.parseInt(token);
        boolean within = v >= Integer.parseInt(ends[0]) && v <= Integer.parseInt(ends[1]);
        return within && !secondOfWay ? 0 : 2;
    }

    /** 1 it cannot stand there, or is none; 2 a NUMBER that is not as told: at its first byte, with each gap. */
    private static void wrongTokens() {
        List<String> pool = likeWords();
        pool.addAll(Arrays.asList(POOL));
        for (String gap : new String[] {" ", "\n", " \n  "}) {
            for (int i = 0; i < WHOLE.length; i++) {
                String ahead = gap.length() > 1 ? gap + join(WHOLE, i, gap) : join(WHOLE, i, gap);
                for (String token : pool) {
                    boolean alike = (i == 16 || i == 22) && token.matches("0*" + WHOLE[i - 1]);
                    int number = due(STANDS[i], token, alike);
                    if (number != 0) {
                        fault(ahead + token + gap + join(WHOLE, WHOLE.length, gap), ahead.length(), number, "token " + i);
                    }
                }
            }
        }
    }

    /** The end: how many bytes there are; it can stand behind each ; of a trader or way. */
    private static void cutOff() {
        for (String gap : new String[] {" ", "\n\n"}) {
            for (int i = 0; i <= WHOLE.length; i++) {
                String text = join(WHOLE, i, gap);
                if (i == 9 || i == 14 || i == 20 || i == 26) {
                    fine(text, i == 9 ? 1 : 2, "ending ahead of token " + i);
                } else {
                    fault(text, text.length(), 1, "the end ahead of token " + i);
                    fault(text.trim(), text.trim().length(), 1, "the end without gap ahead of token " + i);
                }
            }
        }
    }

    private static void standing() {
        List<String> tokens = new ArrayList<>(List.of("night", "9", "9", ";"));
        for (String sort : SORT.split(" ")) {
            tokens.addAll(List.of("trader", sort, "3", "4", ";"));
        }
        BirchLeaf x = Hills.with(String.join(" ", tokens));
        for (int trader = 0; trader < 5; trader++) {
            Checks.due(7, "sort " + trader, x.kind(trader), trader + 1);
        }
        String whole = join(WHOLE, WHOLE.length, " ");
        String traders = join(WHOLE, 14, " ");
        fault(whole + "trader baker 1 1 ;", whole.length(), 1, "a trader behind a way");
        fault(whole + "night", whole.length(), 1, "a night behind all");
        fault(whole + ";", whole.length(), 1, "one sign more");
        fault(whole + "7", whole.length(), 1, "a number behind all");
        fault(traders + "night 1 1;", traders.length(), 1, "a night behind a trader");
        fault(NIGHT + "way 0 1 1 0;", NIGHT.length(), 1, "a way ahead of a trader");
        fault(NIGHT, NIGHT.length(), 1, "no trader");
        fault("", 0, 1, "nothing");
        fault("trader baker 1 1;", 0, 1, "no night");
        fault("way 0 1 1 0;", 0, 1, "no night, no trader");
    }

    /** Bytes 32 and 10 ahead of, between, behind, as many as wanted; no others. */
    private static void blanks() {
        String[] tokens = {"night", "9", "9", ";", "trader", "blind", "1", "1", ";"};
        for (String gap : new String[] {" ", "\n", "  ", "\n \n", Hills.times(" ", 30), Hills.times("\n", 30)}) {
            fine(join(tokens, 9, gap), 1, "gaps behind");
            fine(gap + join(tokens, 9, gap), 1, "gaps ahead, too");
            for (int i = 0; i < 9; i++) {
                String ahead = join(tokens, i, " ");
                fine(ahead + gap + tokens[i] + gap + join(Arrays.copyOfRange(tokens, i + 1, 9), 8 - i, " "), 1,
                        "gaps at token " + i);
            }
        }
        for (int b = 0; b < 256; b++) {
            boolean letter = b >= 'a' && b <= 'z';
            boolean figure = b >= '0' && b <= '9';
            if (b != 32 && b != 10 && !letter && !figure && b != ';') {
                fault("night 9 " + (char) b + "9;trader blind 1 1;", 8, 1, "byte " + b + " ahead of a number");
                fault("night" + (char) b + "9 9;trader blind 1 1;", 5, 1, "byte " + b + " behind a name");
                fault("night 9 9;trader blind 1 1;" + (char) b, 27, 1, "byte " + b + " behind all");
            }
        }
    }

    /** None is needed where one ends without: from a letter to a figure, at a sign; elsewhere two become one. */
    private static void noBlanks() {
        fine("night60 60;trader baker99 60;trader blind0 0;way0 1 30 1;way1 0 1 0;", 2, "no gap where none is needed");
        fine("night60 60;trader baker099 060;", 1, "no gap, three figures");
        fault("night60 60;traderbaker99 60;", 11, 1, "two names without");
        fault("night6060;trader baker 9 9;", 5, 1, "two numbers without, four figures");
        fault("night660;trader baker 9 9;", 5, 2, "two numbers without, three figures");
        fault("night 6 0 6;trader baker 9 9;", 10, 1, "a number parted");
        fault("nig ht 6 6;trader baker 9 9;", 0, 1, "a name parted");
        fault("night60 60trader baker 9 9;", 10, 1, "a name at a number's end");
        fault("night6baker", 6, 1, "a name behind a number");
        fault("night 60 60;trader baker 9 9;way0 1 1 0;", 34, 2, "a fault behind no gap");
        fault("night 60 60;trader baker 9 9;;", 29, 1, "two signs without");
        fault("night60x", 7, 1, "a letter behind figures");
    }

    /** 3 figures at most; a run of four or more is none, at its first, wherever it stands. */
    private static void figures() {
        fine("night 001 000;trader baker 000 000;", 1, "three figures");
        fine("night 01 00;trader baker 00 00;", 1, "two figures");
        fine("night 060 060;trader baker 099 060;trader baker 9 9;way 000 001 030 001;", 2, "three figures each");
        fault("night 0001 0;", 6, 1, "four figures");
        fault("night 1 0000;", 8, 1, "four figures for the second");
        fault("night 1 00000;", 8, 1, "five figures");
        fault("night 1 0;trader baker 0099 0;", 23, 1, "four figures for what he gives");
        fault("night 1 0;trader baker 9 0060;", 25, 1, "four figures for his till");
        fault("0060", 0, 1, "four figures for a name");
        fault("night 100 0;", 6, 2, "three figures, too great");
        fault("night 1000 0;", 6, 1, "four figures, too great");
        fault("night 4294967297 0;", 6, 1, "ten figures");
        fault("night 1 4294967296;", 8, 1, "ten figures for the second");
        fault("night 18446744073709551617 0;", 6, 1, "twenty figures");
        fault("night 60 60;trader baker 9 9;1234", 29, 1, "four figures behind all");
        fault(Hills.times("1", 400), 0, 1, "400 figures");
    }

    /** Each NUMBER's bounds from both sides; what is read is what comes to be. */
    private static void bounds() {
        for (int v = 0; v <= 102; v++) {
            String gives = "night 9 9;trader baker " + v + " 9;";
            String till = "night 9 9;trader baker 9 " + v + ";";
            String dawn = "night " + v + " 9;trader baker 9 9;";
            String water = "night 9 " + v + ";trader baker 9 9;trader baker 9 9;way 0 1 1 1;";
            if (v >= 1 && v <= 60) {
                Checks.due(7, "dawn " + v, Hills.with(dawn).count(5), v);
            } else {
                fault(dawn, 6, 2, "dawn");
            }
            if (v <= 60) {
                Checks.due(7, "till " + v, Hills.with(till).trader(0, 1), v);
                Checks.due(7, "water " + v, Hills.with(water).there(0, 1, v), Checks.NONE);
                if (v > 0) {
                    Checks.due(7, "water up to " + v, Hills.with(water).there(0, 1, v - 1), v);
                }
            } else {
                fault(till, 25, 2, "till");
                fault(water, 8, 2, "water");
            }
            if (v <= 99) {
                Checks.due(7, "gives " + v, Hills.with(gives).trader(0, 0), v);
            } else {
                fault(gives, 23, 2, "gives");
            }
        }
    }

    private static void wayBounds() {
        String two = "night 60 60;trader priest 9 9;trader priest 9 9;";
        for (int v = 0; v <= 40; v++) {
            String minutes = two + "way 0 1 " + v + " 0;";
            if (v >= 1 && v <= 30) {
                Checks.due(7, "long " + v, Hills.with(minutes).there(0, 1, 0), v);
                Checks.due(7, "as long back " + v, Hills.with(minutes).there(1, 0, 7), 7 + v);
            } else {
                fault(minutes, two.length() + 8, 2, "long");
            }
            String wet = two + "way 0 1 1 " + v + ";";
            if (v <= 1) {
                Checks.due(7, "wet " + v, Hills.with(wet).there(0, 1, 60), v == 0 ? 61 : Checks.NONE);
            } else {
                fault(wet, two.length() + 10, 2, "wet");
            }
        }
        for (int traders = 1; traders <= 6; traders++) {
            String text = NIGHT + Hills.times("trader priest 9 9;", traders);
            for (int a = 0; a <= 7; a++) {
                for (int b = 0; b <= 7; b++) {
                    String way = text + "way " + a + " " + b + " 3 0;";
                    if (a >= traders) {
                        fault(way, text.length() + 4, 2, "one of " + traders);
                    } else if (b >= traders || a == b) {
                        fault(way, text.length() + 6, 2, "the other one of " + traders);
                    } else {
                        Checks.due(7, "ways of " + traders, Hills.with(way).there(a, b, 0), 3);
                        Checks.due(7, "for both directions", Hills.with(way).there(b, a, 0), 3);
                        String wet = text + "way " + a + " " + b + " 3 1;";
                        Checks.due(7, "over water", Hills.with(wet).there(a, b, 57), 60);
                        Checks.due(7, "over water back", Hills.with(wet).there(b, a, 57), 60);
                        Checks.due(7, "over water no more", Hills.with(wet).there(b, a, 58), Checks.NONE);
                    }
                }
            }
        }
    }

    private static void traderRoom() {
        for (int traders = 1; traders <= 6; traders++) {
            fine(NIGHT + Hills.times("trader priest 9 9;", traders), traders, "traders");
        }
        String six = NIGHT + Hills.times("trader priest 9 9;", 6);
        fault(six + "trader priest 9 9;", six.length(), 3, "a seventh");
        fault(six + " \n trader priest 9 9;", six.length() + 3, 3, "a seventh behind gaps");
        fault(six + "trader", six.length(), 3, "a seventh's word");
        fault(six + "trader cock 999 9999", six.length(), 3, "a seventh, wrong behind");
        fault(six + "trader;", six.length(), 3, "a seventh, none behind");
        fault(six + "traders", six.length(), 1, "another word for a seventh");
        String five = NIGHT + Hills.times("trader priest 9 9;", 5);
        fault(five + "trader cock", five.length() + 7, 1, "a sixth's sort");
        fault(five + "trader", five.length() + 6, 1, "a sixth's word alone");
    }

    private static void wayRoom() {
        String two = NIGHT + Hills.times("trader priest 9 9;", 2);
        for (int ways = 0; ways <= 10; ways++) {
            String text = two + Hills.times("way 0 1 7 0;", ways);
            fine(text, 2, "ways");
            Checks.due(28, "ways", Hills.with(text).count(2), ways);
        }
        String ten = two + Hills.times("way 0 1 7 0;", 9) + "way 1 0 6 0;";
        Checks.due(7, "the tenth, too", Hills.with(ten).there(0, 1, 0), 6);
        fault(ten + "way 0 1 7 0;", ten.length(), 3, "an eleventh");
        fault(ten + "\n\n\nway 0 1 7 0;", ten.length() + 3, 3, "an eleventh behind gaps");
        fault(ten + "way", ten.length(), 3, "an eleventh's word");
        fault(ten + "way 9 9 99 9", ten.length(), 3, "an eleventh, wrong behind");
        fault(ten + "ways", ten.length(), 1, "another word for an eleventh");
        String nine = two + Hills.times("way 0 1 7 0;", 9);
        fault(nine + "way 2", nine.length() + 4, 2, "a tenth's trader");
        fault(nine + "way", nine.length() + 3, 1, "a tenth's word alone");
        String most = NIGHT + Hills.times("trader priest 9 9;", 6) + Hills.times("way 4 5 7 1;", 10);
        fine(most, 6, "most of both");
        fault(most + "way", most.length(), 3, "an eleventh of six");
    }

    private static void leastOfOneToken() {
        String six = NIGHT + Hills.times("trader priest 9 9;", 6) + "way 0 1 7 0;";
        fault(six + "trader priest 9 9;", six.length(), 1, "a seventh behind a way: 1 ahead of 3");
        fault(NIGHT + "999", NIGHT.length(), 1, "a number where none stands: 1 ahead of 2");
        fault("night 60 60 61;", 12, 1, "a third number: 1 ahead of 2");
        fault("night 9999 60;", 6, 1, "four figures, too great: 1 ahead of 2");
        fault(NIGHT + "trader 100 9 9;", NIGHT.length() + 7, 1, "a number for a sort");
        String two = NIGHT + Hills.times("trader priest 9 9;", 2);
        fault(two + "way 0 1 31;", two.length() + 8, 2, "2 of a number ahead of 1 of the next");
        fault(two + "way 2 2 7 0;", two.length() + 4, 2, "the first of two that are alike, and none");
    }

    private static void firstToken() {
        fault("night 0 61;", 6, 2, "the first number of two");
        fault("night 1 61 x", 8, 2, "2 ahead of a later 1");
        fault("night x 61;", 6, 1, "1 ahead of a later 2");
        fault("night 0", 6, 2, "2 ahead of the end");
        fault("night 0;", 6, 2, "2 ahead of a sign too soon");
        String two = NIGHT + Hills.times("trader priest 9 9;", 2);
        fault(two + "way 0 0 0 2 x", two.length() + 6, 2, "alike ahead of all");
        fault(two + "way 0 1 0 2 x", two.length() + 8, 2, "long ahead of wet");
        fault(two + "way 0 1 1 2 x", two.length() + 10, 2, "wet ahead of the sign");
        fault(two + "way 0 1 1 1 x", two.length() + 12, 1, "the sign");
        fault(NIGHT + "trader cock 100 61 x", NIGHT.length() + 7, 1, "the sort ahead of all");
        fault(NIGHT + "trader baker 100 61 x", NIGHT.length() + 13, 2, "gives ahead of till");
        fault(NIGHT + "trader baker 99 61 x", NIGHT.length() + 16, 2, "till ahead of the sign");
        fault(NIGHT + "trader baker 99 60 x", NIGHT.length() + 19, 1, "the sign of a trader");
    }

    /** All but the tape, and what fault() tells, stays, whatever was read ahead of the FAULT. */
    private static void faultsLeave() {
        String six = NIGHT + Hills.times("trader blind 99 60;", 6);
        String ten = six + Hills.times("way 0 5 1 0;", 10);
        String[] texts = {"", "x", "night 61", NIGHT, NIGHT + "trader knower 99 60", NIGHT + "trader knower 99 60;x",
            six + "trader", six + "way 0 6", six + "way 0 5 1 1;way 0 1 1 1", ten + "way", ten + "way 0 5 1 0;", ten + ";"};
        int[] numbers = {1, 1, 2, 1, 1, 1, 3, 2, 1, 3, 3, 1};
        int[] places = {0, 0, 6, 12, 31, 32, six.length(), six.length() + 6, six.length() + 23, ten.length(), ten.length(),
            ten.length()};
        for (int i = 0; i < texts.length; i++) {
            String text = texts[i];
            int want = -1000100 - places[i];
            Twins.but(7, "a fault leaves all: " + text, Stages::taken, x -> Hills.read(x, text), want, "fault", numbers[i]);
            Twins.but(7, "a fault leaves no hill: " + text, Stages::nothing, x -> Hills.read(x, text), want, "fault",
                    numbers[i]);
        }
    }

    private static void again(BirchLeaf x) {
        Stages.much(x);
        Hills.read(x, Hills.ROUND);
    }

    /** In place of the one before, of which nothing is left; images, rows, trace, status and fault stay. */
    private static void hillStands() {
        for (String text : new String[] {Hills.ROUND, Hills.FIVE, Hills.ALONE, Hills.TWO}) {
            Twins.as(7, "what was ahead leaves nothing: " + text, TapeBounds::again, x -> Hills.read(x, text),
                    Hills.with(text).count(1), x -> {
                        Stages.much(x);
                        Hills.read(x, text);
                    });
            BirchLeaf x = new BirchLeaf();
            Stages.much(x);
            Hills.read(x, text);
            BirchLeaf y = Hills.with(text);
            for (int what = 1; what <= 6; what++) {
                Checks.due(7, "count " + what + " as of a new one", x.count(what), y.count(what));
            }
            Checks.due(7, "minute 0", x.count(3), 0);
            Checks.due(7, "no act", x.count(4), 0);
            Checks.due(7, "trader 0 has it", x.count(6), 0);
            for (int trader = 0; trader < 6; trader++) {
                Checks.due(7, "wins 0", x.trader(trader, 3), trader < x.count(1) ? 0 : Checks.BAD);
                for (int other = 0; other < 6; other++) {
                    Checks.due(7, "its ways alone", x.there(trader, other, 0), y.there(trader, other, 0));
                }
            }
            Checks.due(7, "no undo", x.undo(), Checks.STATE);
            Checks.due(7, "rows stay", x.count(0), 4);
            Checks.due(7, "items stay", x.set(0, 2, 9), 9);
            Checks.due(7, "the trace stays", x.trace(0), 23);
            Checks.due(7, "image 0 stays", x.restore(0), 1);
            Checks.due(7, "as it was", x.count(5), 50);
            Checks.due(7, "image 1 is none yet", x.restore(1), Checks.STATE);
        }
    }

    /** Six with a way by land and one by water to each of some, then six with none: no way of those is left. */
    private static void sixBehindSix() {
        String six = "night 60 60;" + Hills.times("trader priest 1 1;", 6);
        for (int one = 0; one < 6; one++) {
            StringBuilder ways = new StringBuilder(six);
            for (int other = 0; other < 6; other++) {
                ways.append(other == one ? "" : "way " + one + " " + other + " 9 0;way " + other + " " + one + " 5 1;");
            }
            BirchLeaf x = Hills.with(ways.toString());
            x.pass(one == 0 ? 5 : one);
            Checks.due(9, "passed by water", x.count(3), 5);
            Hills.read(x, six);
            for (int trader = 0; trader < 6; trader++) {
                Checks.due(7, "wins 0 of " + trader, x.trader(trader, 3), 0);
            }
            for (int a = 0; a < 6; a++) {
                for (int b = 0; b < 6; b++) {
                    if (a != b) {
                        Checks.due(7, "by water from " + a + " to " + b, x.there(a, b, 0), Checks.NONE);
                        Checks.due(7, "by land from " + a + " to " + b, x.there(a, b, 60), Checks.NONE);
                    }
                }
            }
        }
    }

    private static void latestFault() {
        Twins.only(8, "told", Stages::taped, x -> x.fault(), 2);
        Twins.only(8, "told without a hill", Stages::bare, x -> x.fault(), 2);
        Twins.only(8, "0 told", Stages::taken, x -> x.fault(), 0);
        BirchLeaf x = new BirchLeaf();
        Checks.due(8, "0 before one", x.fault(), 0);
        Hills.feed(x, "night 0");
        Checks.due(8, "0 before it is read", x.fault(), 0);
        x.hill();
        Checks.due(8, "2", x.fault(), 2);
        Hills.read(x, Hills.TWO);
        Checks.due(8, "the latest, behind a hill", x.fault(), 2);
        x.pass(1);
        x.undo();
        x.image(0);
        x.restore(0);
        x.row(0, 0, -1);
        x.feed(0, 0);
        Checks.due(8, "behind other calls", x.fault(), 2);
        Hills.read(x, NIGHT + Hills.times("trader priest 9 9;", 7));
        Checks.due(8, "3", x.fault(), 3);
        x.hill();
        Checks.due(8, "1, of nothing", x.fault(), 1);
        Checks.due(8, "told again", x.fault(), 1);
    }
}
