/** Promises 6 to 8: the tape, hills read from it, faults. */
final class TapeCases {
    private static final String NIGHT = "night 30 20;";
    private static final String ONE = NIGHT + "trader baker 1 2;";
    private static final String PAIR = ONE + "trader blind 3 4;";

    private TapeCases() {
    }

    static void run() {
        feed();
        reads();
        order();
        tokens();
        numbers();
        room();
        stays();
        ends();
    }

    private static void feed() {
        BirchLeaf x = new BirchLeaf();
        Checks.due(6, "n 0", x.feed(1, 0), Checks.BAD);
        Checks.due(6, "n 9", x.feed(1, 9), Checks.BAD);
        Checks.due(6, "n -1", x.feed(1, -1), Checks.BAD);
        Checks.due(6, "nothing came", x.count(7), 0);
        Checks.due(6, "one", x.feed(0x6e, 1), 1);
        Checks.due(6, "eight", x.feed(0x6967687420312030L, 8), 9);
        Checks.due(6, "two of more", x.feed(0x7777_3b20L, 2), 11);
        Checks.due(6, "the rest", x.feed(-1L << 48 | 0x747261646572L, 6), 17);
        Hills.feed(x, " priest 4 5;");
        Checks.due(6, "the highest of them first", x.hill(), 1);
        Checks.due(6, "empty then", x.count(7), 0);
        for (int i = 1; i <= 50; i++) {
            Checks.due(6, "fed " + i, x.feed(-1, 8), 8 * i);
        }
        Checks.due(6, "full", x.feed(32, 1), Checks.FULL);
        Checks.due(6, "BAD ahead of FULL", x.feed(32, 0), Checks.BAD);
        Checks.due(6, "a byte above 127", x.hill(), -1000100);
        for (int i = 1; i <= 49; i++) {
            x.feed(0x2020202020202020L, 8);
        }
        Checks.due(6, "399", x.feed(0x20202020202020L, 7), 399);
        Checks.due(6, "none of two comes", x.feed(0x2020, 2), Checks.FULL);
        Checks.due(6, "399 yet", x.count(7), 399);
        Checks.due(6, "400", x.feed(0x20, 1), 400);
        Checks.due(7, "the end of 400", x.hill(), -1000500);
    }

    private static void reads() {
        BirchLeaf x = new BirchLeaf();
        Checks.due(7, "five", Hills.read(x, Hills.FIVE), 5);
        Checks.due(7, "traders", x.count(1), 5);
        Checks.due(7, "ways", x.count(2), 7);
        Checks.due(7, "dawn", x.count(5), 40);
        Checks.due(7, "gives", x.trader(4, 0), 14);
        Checks.due(7, "till", x.trader(4, 1), 10);
        x.pass(1);
        x.waits(3);
        Checks.due(7, "anew", Hills.read(x, Hills.TWO), 2);
        Checks.due(7, "minute 0", x.count(3), 0);
        Checks.due(7, "no act", x.count(4), 0);
        Checks.due(7, "trader 0 has it", x.count(6), 0);
        Checks.due(7, "wins 0", x.trader(0, 3), 0);
        Checks.due(7, "wins 0 of the other", x.trader(1, 3), 0);
        Checks.due(7, "no way of the one before", x.there(0, 1, 0), 4);
        Checks.due(7, "ways anew", x.count(2), 1);
        Checks.due(7, "no undo", x.undo(), Checks.STATE);
    }

    /** Reads a text on a new object: the place and the number of its fault. */
    private static void fault(String text, int place, int number) {
        BirchLeaf x = new BirchLeaf();
        Hills.feed(x, text);
        Checks.due(7, "place in " + text, x.hill(), -1000100 - place);
        Checks.due(8, "fault of " + text, x.fault(), number);
        Checks.due(7, "tape behind " + text, x.count(7), 0);
        Checks.due(7, "no hill by " + text, x.count(1), 0);
    }

    private static void fine(String text, int traders) {
        BirchLeaf x = new BirchLeaf();
        Checks.due(7, text, Hills.read(x, text), traders);
        Checks.due(8, "no fault in " + text, x.fault(), 0);
    }

    private static void order() {
        fault("", 0, 1);
        fault("  \n", 3, 1);
        fault("trader baker 1 2;", 0, 1);
        fault("night", 5, 1);
        fault("night ;", 6, 1);
        fault("night 30", 8, 1);
        fault("night 30;", 8, 1);
        fault("night 30 20", 11, 1);
        fault("night 30 20 5;", 12, 1);
        fault("night 30 20 trader", 12, 1);
        fault(NIGHT, 12, 1);
        fault(NIGHT + " \n ", 15, 1);
        fault(NIGHT + "way 0 1 1 0;", 12, 1);
        fault(NIGHT + NIGHT, 12, 1);
        fault(NIGHT + ";", 12, 1);
        fault(NIGHT + "trader 5 5;", 19, 1);
        fault(NIGHT + "trader baker;", 24, 1);
        fault(NIGHT + "trader baker 1;", 26, 1);
        fault(NIGHT + "trader baker 1 2", 28, 1);
        fault(NIGHT + "trader trader 1 2;", 19, 1);
        fault(NIGHT + "trader cock 1 2;", 19, 1);
        fault(NIGHT + "trader bakers 1 2;", 19, 1);
        fault(NIGHT + "trader bake 1 2;", 19, 1);
        fault(ONE + "traders baker 1 2;", 29, 1);
        fault(ONE + "5", 29, 1);
        fault(PAIR + "way 0 1 1 0;trader baker 1 2;", 58, 1);
        fault(PAIR + "way 0 1 1 0;;", 58, 1);
        fault(PAIR + "way 0 1 1 0;night", 58, 1);
        fault(PAIR + "way 0 1 1;", 55, 1);
        fault(PAIR + "way 0;", 51, 1);
        fault(PAIR + "way;", 49, 1);
        fault(PAIR + "way 0 1 1 0", 57, 1);
        fine(ONE, 1);
        fine(PAIR + "way 0 1 1 0;way 1 0 2 1;", 2);
    }

    private static void tokens() {
        fine("night30 20;trader baker 1 2;", 1);
        fine("\n night\n30\n\n20 ; trader baker 1 2 ;\n  ", 1);
        fine("night 30 20;trader miller1 2;trader priest 001 060;", 2);
        fine("night 030 000;trader knower 0 0;", 1);
        fault("night30 20;trader baker1 2;x", 27, 1);
        fault("nightx 30 20;", 0, 1);
        fault("Night 30 20;", 0, 1);
        fault("wight 30 20;", 0, 1);
        fault("nighz 30 20;", 0, 1);
        fault("nightz 30 20;", 0, 1);
        fault("znight 30 20;", 0, 1);
        fault("nighta 30 20;", 0, 1);
        fault("night`30 20;", 5, 1);
        fault("night{30 20;", 5, 1);
        fault("night/30 20;", 5, 1);
        fault("night:30 20;", 5, 1);
        fault("night 30 20,", 11, 1);
        fault("night\t30 20;", 5, 1);
        fault("night -3 20;", 6, 1);
        fault("night 1234 20;", 6, 1);
        fault("night 0030 20;", 6, 1);
        fault("night 30 0020;", 9, 1);
        fault("night 30 12345678901234567890;", 9, 1);
        fault("night 3 0 20;", 10, 1);
        fault("night 30 20;trader baker 1 2;\u00e9", 29, 1);
        fault("night 30 20;trader baker 1 2;\u0000", 29, 1);
        fault("night 30 20;trader baker 1x 2;", 26, 1);
        fault("nightnight 30 20;", 0, 1);
    }

    private static void numbers() {
        fault("night 0 20;", 6, 2);
        fault("night 61 20;", 6, 2);
        fault("night 999 1234;", 6, 2);
        fault("night 60 61;", 9, 2);
        fine("night 60 60;trader baker 99 60;", 1);
        fine("night 1 0;trader baker 0 0;", 1);
        fault(NIGHT + "trader baker 100 2;", 25, 2);
        fault(NIGHT + "trader baker 99 61;", 28, 2);
        fault(PAIR + "way 2 0 1 0;", 50, 2);
        fault(PAIR + "way 0 2 1 0;", 52, 2);
        fault(PAIR + "way 1 1 1 0;", 52, 2);
        fault(PAIR + "way 2 2 1 0;", 50, 2);
        fault(PAIR + "way 0 1 0 0;", 54, 2);
        fault(PAIR + "way 0 1 31 0;", 54, 2);
        fault(PAIR + "way 0 1 30 2;", 57, 2);
        fine(PAIR + "way 1 0 30 1;", 2);
        fault(ONE + "way 0 0 1 0;", 35, 2);
        fault("night 0 61;", 6, 2);
        fault("night 0 !", 6, 2);
    }

    private static void room() {
        String six = NIGHT + Hills.times("trader blind 9 9;", 6);
        fine(six, 6);
        fault(six + "trader blind 9 9;", six.length(), 3);
        fault(six + "trader cock", six.length(), 3);
        fault(six + "trader", six.length(), 3);
        fault(six + "traders", six.length(), 1);
        String ten = PAIR + Hills.times("way 0 1 1 0;", 10);
        fine(ten, 2);
        fault(ten + "way 0 1 1 0;", ten.length(), 3);
        fault(ten + "way;", ten.length(), 3);
        fault(six + "way 0 5 1 0;trader", six.length() + 12, 1);
        fine(six + Hills.times("way 4 5 2 1;", 10), 6);
    }

    private static void stays() {
        BirchLeaf x = Hills.with(Hills.TWO);
        x.row(0, 0, 3);
        x.pass(1);
        x.image(0);
        Checks.due(7, "a fault", Hills.read(x, NIGHT + "trader blind 5 5;way 0 0"), -1000135);
        Checks.due(8, "its number", x.fault(), 2);
        Checks.due(7, "traders stay", x.count(1), 2);
        Checks.due(7, "dawn stays", x.count(5), 60);
        Checks.due(7, "minute stays", x.count(3), 4);
        Checks.due(7, "holder stays", x.count(6), 1);
        Checks.due(7, "acts stay", x.count(4), 1);
        Checks.due(7, "ways stay", x.there(0, 1, 1), 5);
        Checks.due(7, "another is read", Hills.read(x, Hills.ALONE), 1);
        Checks.due(8, "the latest fault stays told", x.fault(), 2);
        Checks.due(7, "rows stay", x.count(0), 1);
        Checks.due(7, "images stay", x.restore(0), 1);
        Checks.due(7, "that one", x.count(3), 4);
        Checks.due(7, "a later fault", Hills.read(x, "x"), -1000100);
        Checks.due(8, "the later one", x.fault(), 1);
    }

    /** What stood behind the end in an earlier tape is no part of the next one; nor is there a byte 400. */
    private static void ends() {
        BirchLeaf x = new BirchLeaf();
        Hills.read(x, "nightlynightly");
        Checks.due(7, "a word at the end", Hills.read(x, "night"), -1000105);
        Hills.read(x, "night 60000000");
        Checks.due(7, "a number at the end", Hills.read(x, "night 60"), -1000108);
        Hills.read(x, "night 60 0;;;;;");
        Checks.due(7, "a sign at the end", Hills.read(x, "night 60 0;"), -1000111);
        Checks.due(7, "400 letters", Hills.read(x, Hills.times("n", 400)), -1000100);
        Checks.due(7, "400 figures", Hills.read(x, Hills.times("1", 400)), -1000100);
        Checks.due(7, "400 gaps", Hills.read(x, Hills.times("\n", 400)), -1000500);
        Checks.due(7, "400 signs", Hills.read(x, Hills.times(";", 400)), -1000100);
        String part = NIGHT + Hills.times(" ", 400 - NIGHT.length() - 6);
        Checks.due(7, "a word to the 400th", Hills.read(x, part + "trader"), -1000500);
        Checks.due(7, "a whole hill to the 400th", Hills.read(x, NIGHT + Hills.times(" ", 400 - ONE.length())
                + ONE.substring(NIGHT.length())), 1);
    }
}
