/** Promises 5 and 6, each sentence that names a boundary by itself: THE TEXT, and the YARD that it is. */
public final class BoundsTextTest {
    private static final Due d = new Due();
    private static final int MIN = Integer.MIN_VALUE, MAX = Integer.MAX_VALUE;
    private static final int ALL_OF_5 = (1 << 25) - 1;

    /** YARDS that go through every word of the grammar. */
    private static final String[] YARDS = {
        "wide 5;hole x=1;bar y<22;round;flat", "flat;flat", "wide 12", "hole !!!!x=1", "bar ((((s>3))))",
        "bar (x=1|y=2&d>0)&!(n<12|w=4);round", "hole !(x=1)|!(!y<1&(x>22))", "hole n=1|n=2|n=3;hole w>1&w<6",
        "round;wide 3;bar d=0;wide 04;flat;hole s>4;bar x<1;round;flat;wide 2",
    };

    public static void main(String[] args) {
        feedSigns();
        feedMany();
        feedFull();
        feedFirstNamed();
        textOfHundred();
        yardNumber();
        yardEmptiesText();
        yardFull();
        sixYards();
        faultLess();
        yardTakesAway();
        clausesOneToTen();
        blanks();
        digitsOfWide();
        expressions();
        tests();
        digitsOfTest();
        withinFour();
        withinOthersOnly();
        faultPlace();
        faultAtEnd();
        wideLimits();
        wideLast();
        testsOfSquares();
        testsByFinalWide();
        holesAndBars();
        roundOrFlat();
        d.finish();
    }

    private static void feedSigns() {
        d.says(5, "A sign (0 .. 127)");
        int[] bad = {-1, 128, 129, 255, 256, 375, -128, MIN, MAX};
        NoneSees x = new NoneSees();
        d.due("feed(0)", x.feed(0), 1);
        for (int sign : bad) {
            d.due("feed(" + sign + ")", x.feed(sign), -2);
        }
        d.due("feed(127)", x.feed(127), 2);
        d.due("count(5)", x.count(5), 2);
    }

    private static void feedMany() {
        d.says(5, "comes behind THE TEXT's: how many it has.");
        NoneSees x = new NoneSees();
        String text = "wide 3;bar n=7";
        for (int i = 0; i < text.length(); i++) {
            d.due("sign " + i, x.feed(text.charAt(i)), i + 1);
        }
        d.due("yard()", x.yard(), 0);
        d.due("told(4)", x.told(4), Due.bits(7));
        d.due("the next one is the first", x.feed('w'), 1);
    }

    private static void feedFull() {
        d.says(5, "FULL");
        NoneSees x = new NoneSees();
        for (int i = 1; i <= 100; i++) {
            d.due("sign " + i, x.feed('w'), i);
        }
        d.due("the 101st", x.feed('w'), -4);
        d.due("the 102nd", x.feed(0), -4);
        d.due("count(5)", x.count(5), 100);
        d.due("yard()", x.yard(), -11);
        d.due("empty then", x.feed('w'), 1);
    }

    private static void feedFirstNamed() {
        d.says(5, "BAD; FULL.");
        NoneSees x = new NoneSees();
        Due.feed(x, "x".repeat(100));
        d.due("128 and full", x.feed(128), -2);
        d.due("-1 and full", x.feed(-1), -2);
        d.due("full alone", x.feed(127), -4);
        d.due("full alone", x.feed(0), -4);
    }

    private static void textOfHundred() {
        d.says(5, "bytes, 100 at most");
        String text = "bar " + "x=1|".repeat(23) + "n=15";
        NoneSees x = new NoneSees();
        Due.feed(x, text);
        d.due("count(5)", x.count(5), 100);
        d.due("what comes behind it is not kept", x.feed(';'), -4);
        d.due("yard()", x.yard(), 0);
        d.due("read to its last sign", x.told(4), Due.picture(".o..", ".o..", ".o..", ".o.o"));
        Due.feed(x, text.substring(0, 99));
        d.due("of 99", x.yard(), 1);
        d.due("n=1", x.told(4), Due.picture(".o..", ".o..", ".o..", ".o.."));
    }

    private static void yardNumber() {
        d.says(6, "is a YARD, and holds: its number.");
        NoneSees x = new NoneSees();
        for (int i = 0; i < 6; i++) {
            d.due("a fault takes no number", Due.yard(x, "wade"), -11);
            d.due("yard " + i, Due.yard(x, "bar n=" + i), i);
            d.due("it holds", x.told(4), 1 << i);
            d.due("count(1)", x.count(1), i + 1);
        }
    }

    private static void yardEmptiesText() {
        d.says(6, "THE TEXT, which is empty then");
        NoneSees x = new NoneSees();
        d.due("good", Due.yard(x, "wide 3"), 0);
        d.due("count(5)", x.count(5), 0);
        d.due("empty", x.yard(), -10);
        d.due("faulty", Due.yard(x, "wide 3;"), -17);
        d.due("count(5)", x.count(5), 0);
        d.due("empty again", x.yard(), -10);
        d.due("faulty at its first sign", Due.yard(x, "x"), -10);
        d.due("count(5)", x.count(5), 0);
        d.due("good again", Due.yard(x, "wide 2"), 1);
    }

    private static void yardFull() {
        d.says(6, "FULL: there are 6 (THE TEXT stays)");
        NoneSees x = new NoneSees();
        for (int i = 0; i < 5; i++) {
            Due.yard(x, "flat");
        }
        d.due("the sixth", Due.yard(x, "wide 5;bar n=24"), 5);
        d.due("with no text", x.yard(), -4);
        Due.feed(x, "wide");
        d.due("full ahead of a fault", x.yard(), -4);
        d.due("count(5)", x.count(5), 4);
        Due.feed(x, " 3");
        d.due("with a good one", x.yard(), -4);
        d.due("count(5)", x.count(5), 6);
        d.due("the sixth holds", x.told(4), 1 << 24);
        d.due("count(1)", x.count(1), 6);
        d.due("the text goes on", x.feed('x'), 7);
    }

    private static void sixYards() {
        d.says(6, "The newest YARD holds (6 at most)");
        NoneSees x = new NoneSees();
        int[] wides = {2, 5, 3, 4, 5, 2};
        for (int i = 0; i < 6; i++) {
            d.due("yard " + i, Due.yard(x, "wide " + wides[i]), i);
            d.due("told(0)", x.told(0), wides[i]);
        }
        d.due("a seventh", Due.yard(x, "wide 4"), -4);
        d.due("told(0)", x.told(0), 2);
        d.due("count(1)", x.count(1), 6);
    }

    private static void faultLess() {
        d.says(6, "-10 less the FAULT (the one that held holds, MEN stay)");
        NoneSees x = Due.with("wide 3;round;hole n=4;bar n=5", 0);
        Due.setAll(x, 0, 8);
        x.aim(1);
        x.see(2, 3);
        x.book(8);
        String[] texts = {"", "x", "wide", "wide 5;", "wide 5;round;x", "flat;hole n=1;bar n=1|", "wide 555"};
        int[] faults = {0, 0, 4, 7, 13, 22, 7};
        for (int i = 0; i < texts.length; i++) {
            d.due(texts[i], Due.yard(x, texts[i]), -10 - faults[i]);
            d.due("told(0)", x.told(0), 3);
            d.due("told(1)", x.told(1), 1);
            d.due("told(3)", x.told(3), 16);
            d.due("told(4)", x.told(4), 48);
            d.due("told(5)", x.told(5), 256);
            d.due("aim, seen, book", x.count(2) + 10 * x.count(3) + 100 * x.count(4), 111);
            d.due("count(1)", x.count(1), 1);
        }
        String longest = "bar " + "x=1&".repeat(24);
        d.due("the last place that there is", Due.yard(x, longest), -110);
        d.due("its last sign", Due.yard(x, longest.substring(0, 99) + "@"), -109);
    }

    private static void yardTakesAway() {
        d.says(6, "by it all MEN, THE AIM, SEEN, the BOOK are taken away");
        NoneSees x = Due.with("wide 5", 0, 60);
        for (int i = 1; i < 6; i++) {
            x.row(1, i, 0);
            for (int square = 0; square < 25; square++) {
                x.set(i % 2, square);
            }
            for (int k = 0; k < 12; k++) {
                x.aim(k);
                x.see(k, k);
                x.book(k);
            }
            d.due("yard", Due.yard(x, "wide 5"), i);
            d.due("men", x.told(2), 0);
            d.due("squares with men", x.told(5), 0);
            d.due("men of a plan", x.of(0, 2) + x.of(1, 2), 0);
            d.due("aim", x.count(2), 0);
            d.due("seen", x.count(3), 0);
            d.due("book", x.count(4), 0);
            d.due("looked()", x.looked(), -5);
            d.due("reach()", x.reach(), 0);
            d.due("rubbed(0)", x.rubbed(0), ALL_OF_5);
            d.due("plans stay", x.count(0), 2);
            d.due("their rows stay", x.row(1, i, 0), 0);
        }
    }

    /** The text's FAULT; -1: it is a YARD. */
    private static void fault(String text, int place) {
        NoneSees x = new NoneSees();
        d.due("'" + text + "'", Due.yard(x, text), place < 0 ? 0 : -10 - place);
        d.due("'" + text + "' count(1)", x.count(1), place < 0 ? 1 : 0);
    }

    private static void clausesOneToTen() {
        d.says(6, "CLAUSES, 1 to 10, with ; between");
        fault("", 0);
        fault(";", 0);
        fault("flat", -1);
        fault("flat;", 5);
        fault(";flat", 0);
        fault("flat;;flat", 5);
        fault("flat,flat", 4);
        fault("flatflat", 4);
        String nine = "flat" + ";flat".repeat(8);
        fault(nine, -1);
        fault(nine + ";round", -1);
        fault(nine + ";round;", 50);
        fault(nine + ";round;flat", 50);
        fault(nine + ";round;;;", 50);
        NoneSees x = Due.on(nine + ";round");
        d.due("the tenth counts", x.told(1), 1);
        String bars = "bar n=0;bar n=1;bar n=2;bar n=3;bar n=4;bar n=5;bar n=6;bar n=7;bar n=8;bar n=9";
        d.due("all ten", Due.on(bars).told(4), 1023);
        fault(bars + ";bar n=10", bars.length());
    }

    private static void blanks() {
        d.says(6, "one blank ahead of each part behind the word");
        fault("wide3", 4);
        fault("wide 3", -1);
        fault("wide  3", 5);
        fault("wide\t3", 4);
        fault("holex=1", 4);
        fault("hole x=1", -1);
        fault("hole  x=1", 5);
        fault("barx=1", 3);
        fault("bar x=1", -1);
        fault("bar  x=1", 4);
        fault("round", -1);
        fault("round ", 5);
        fault("flat", -1);
        fault("flat ", 4);
        fault(" flat", 0);
        fault("flat ;flat", 4);
        fault("flat; flat", 5);
        fault("wide 3 ", 6);
        fault("hole x =1", 6);
        fault("hole x= 1", 7);
        fault("hole x=1 ", 8);
        fault("hole ( x=1)", 6);
        fault("hole ! x=1", 6);
        fault("hole x=1| y=1", 9);
        fault("hole x=1 |y=1", 8);
    }

    private static void digitsOfWide() {
        d.says(6, "n 1 or 2 digits");
        fault("wide ", 5);
        fault("wide ;flat", 5);
        fault("wide 3", -1);
        fault("wide 03", -1);
        fault("wide 00", -1);
        fault("wide 99", -1);
        fault("wide 003", 7);
        fault("wide 100", 7);
        fault("wide -3", 5);
        fault("wide +3", 5);
        fault("wide 3.", 6);
        fault("wide /", 5);
        fault("wide :", 5);
        fault("wide 4/", 6);
        fault("wide 4:", 6);
        fault("wide 0", -1);
        fault("wide 9", -1);
    }

    private static void expressions() {
        d.says(6, "E: T or T|E. T: F or F&T. F: !F, (E), or a TEST");
        String[] good = {"x=1", "x=1|y=1", "x=1&y=1", "x=1|y=1|s=1", "x=1&y=1&s=1", "!x=1", "(x=1)", "!(x=1)", "(!x=1)",
            "!!x=1", "((x=1))", "(x=1|y=1)&(s=1|d=1)", "x=1|(y=1&s=1)|!d=1"};
        for (String e : good) {
            fault("hole " + e, -1);
            fault("bar " + e, -1);
        }
        fault("hole |x=1", 5);
        fault("hole &x=1", 5);
        fault("hole x=1||y=1", 9);
        fault("hole x=1|&y=1", 9);
        fault("hole x=1&|y=1", 9);
        fault("hole x=1&&y=1", 9);
        fault("hole x=1!y=1", 8);
        fault("hole x=1(y=1)", 8);
        fault("hole (x=1)y=1", 10);
        fault("hole (x=1)(y=1)", 10);
        fault("hole (x=1)!y=1", 10);
        fault("hole ()", 6);
        fault("hole (|x=1)", 6);
        fault("hole (x=1|)", 10);
        fault("hole !)", 6);
        fault("hole )", 5);
        fault("hole x=1)", 8);
        fault("hole (x=1))", 10);
        fault("hole (x=1;flat)", 9);
        fault("hole !;flat", 6);
        fault("hole ;flat", 5);
    }

    private static void tests() {
        d.says(6, "a letter, < or = or >, a number");
        for (char letter = 0; letter < 128; letter++) {
            boolean good = "xysdnw".indexOf(letter) >= 0;
            if (letter != '(' && letter != '!') {
                fault("hole " + letter + "=1", good ? -1 : 5);
            }
        }
        for (char order = 0; order < 128; order++) {
            fault("bar x" + order + "1", "<=>".indexOf(order) >= 0 ? -1 : 5);
        }
        for (char digit = 0; digit < 128; digit++) {
            fault("bar x=" + digit, digit >= '0' && digit <= '9' ? -1 : 6);
        }
        fault("bar x<=1", 6);
        fault("bar x=<1", 6);
        fault("bar 1=x", 4);
        fault("bar xx=1", 5);
    }

    private static void digitsOfTest() {
        d.says(6, "a number (1 or 2 digits)");
        fault("bar x=", 6);
        fault("bar x=|y=1", 6);
        fault("bar x=1", -1);
        fault("bar x=01", -1);
        fault("bar x=99", -1);
        fault("bar x=001", 8);
        fault("bar x=100", 8);
        fault("bar x=-1", 6);
        fault("bar (x=111)", 9);
        d.due("one digit", Due.on("bar n=1").told(4), Due.bits(1));
        d.due("two digits", Due.on("bar n=12").told(4), Due.bits(12));
        d.due("the first is 0", Due.on("bar n=02").told(4), Due.bits(2));
        d.due("99 is above all", Due.on("bar n<99").told(4), 65535);
        d.due("00 is 0", Due.on("bar n=00").told(4), 1);
    }

    private static void withinFour() {
        d.says(6, "A ( or ! within 4 others is none.");
        fault("hole ((((x=1))))", -1);
        fault("hole (((((x=1)))))", 9);
        fault("hole !!!!x=1", -1);
        fault("hole !!!!!x=1", 9);
        fault("hole !!!!(x=1)", 9);
        fault("hole ((((!x=1))))", 9);
        fault("hole (!(!x=1))", -1);
        fault("hole (!(!(x=1)))", 9);
        fault("hole !(!(x=1))", -1);
        fault("hole !(!(!x=1))", 9);
        fault("hole (((!x=1)))", -1);
        fault("hole !!!(x=1)", -1);
        fault("bar ((((x=1))))", -1);
        fault("bar (((((x=1)))))", 8);
        fault("bar !!!!!x=1", 8);
        fault("flat;bar !!!!x=1;hole !!!!!x=1", 26);
        d.due("four times not", Due.on("bar !!!!n=3").told(4), Due.bits(3));
        d.due("three times not", Due.on("bar !!!n=3").told(4), 65535 & ~Due.bits(3));
        d.due("four around", Due.on("bar ((((n=3))))").told(4), Due.bits(3));
    }

    private static void withinOthersOnly() {
        d.says(6, "A ( or ! within 4 others");
        // those beside it, or that have ended ahead of it, are not around it
        fault("hole !x=1&!x=2&!x=3&!y=1&!y=2&!y=3", -1);
        fault("hole ((((x=1))))&((((y=1))))|!!!!s=2", -1);
        fault("hole (((!x=1|!y=1)&(s=1))|(d=1))", -1);
        fault("hole ((((x=1))|((y=1))))", -1);
        fault("hole ((((x=1))|(((y=1)))))", 17);
        fault("hole (((x=1)))|(((((y=1)))))", 19);
        fault("hole !!!!x=1;hole !!!!x=1;hole ((((x=1))))", -1);
        fault("hole !(((x=1)))&!!!!x=1&!!!!!x=1", 28);
        fault("hole (((x=1&!y=1&!s=1)))", -1);
        fault("hole (((x=1&!!y=1)))", 13);
    }

    /** Ahead of which byte the first of a text is that no YARD begins with. */
    private static void faultPlace() {
        d.says(6, "The FAULT: the place of the first byte with which none begins so");
        char[] strange = {0, '@', 'Q', '%', 127, '\n'};
        for (String text : YARDS) {
            for (int place = 0; place <= text.length(); place++) {
                char sign = strange[place % strange.length];
                fault(text.substring(0, place) + sign + text.substring(place), place);
            }
        }
        fault("wade 3;flat;;", 1);
        fault("hale x=1", 1);
        fault("hols x=1", 3);
        fault("bat x=1", 2);
        fault("ring", 1);
        fault("rouse", 3);
        fault("flag", 3);
        fault("Wide 3", 0);
        fault("wide X", 5);
        fault("wide 3;WIDE 3", 7);
        fault("hole X=1", 5);
    }

    private static void faultAtEnd() {
        d.says(6, "(the end of THE TEXT, if it ends too early)");
        for (String text : YARDS) {
            for (int end = 0; end < text.length(); end++) {
                String part = text.substring(0, end);
                fault(part, isWhole(part) ? -1 : end);
            }
        }
        fault("", 0);
        fault("wide 3;", 7);
        fault("hole (x=1", 9);
        fault("hole ((((x=1)))", 15);
        fault("bar " + "x=1&".repeat(24), 100);
        fault("bar " + "x=1|".repeat(23) + "(x=1", 100);
        fault("flat;".repeat(9) + "bar " + "x=1|".repeat(12) + "x=1", -1);
        fault("flat;".repeat(9) + "bar " + "x=1|".repeat(12) + "x=", 99);
    }

    /** Whether the beginning of one of YARDS ends where one can end. */
    private static boolean isWhole(String text) {
        int open = text.replaceAll("[^(]", "").length() - text.replaceAll("[^)]", "").length();
        boolean ended = text.endsWith("round") || text.endsWith("flat") || text.matches("(?s).*[0-9)]");
        return open == 0 && ended;
    }

    private static void wideLimits() {
        d.says(6, "2 if less, 5 if more");
        String[] texts = {"0", "00", "1", "01", "2", "02", "3", "4", "5", "05", "6", "06", "10", "25", "99"};
        int[] wides = {2, 2, 2, 2, 2, 2, 3, 4, 5, 5, 5, 5, 5, 5, 5};
        for (int i = 0; i < texts.length; i++) {
            NoneSees x = Due.with("wide " + texts[i], 0);
            d.due("wide " + texts[i], x.told(0), wides[i]);
            d.due("the last square", x.set(0, wides[i] * wides[i] - 1), 1);
            d.due("one more", x.set(0, wides[i] * wides[i]), -1);
        }
    }

    private static void wideLast() {
        d.says(6, "WIDE (4 without): the last n of wide");
        d.due("without", Due.on("flat").told(0), 4);
        NoneSees x = Due.on("wide 3");
        Due.yard(x, "round");
        d.due("without, behind another yard", x.told(0), 4);
        d.due("of two", Due.on("wide 5;wide 2").told(0), 2);
        d.due("of two", Due.on("wide 2;wide 5").told(0), 5);
        d.due("the last is less", Due.on("wide 5;wide 0").told(0), 2);
        d.due("the last is more", Due.on("wide 2;wide 6").told(0), 5);
        d.due("of ten", Due.on("wide 5;wide 2;wide 3;wide 5;wide 2;wide 3;wide 5;wide 2;wide 5;wide 3").told(0), 3);
    }

    private static void barred(String e, String... rows) {
        d.due(e, Due.on("wide 3;bar " + e).told(4), Due.picture(rows));
    }

    private static void testsOfSquares() {
        d.says(6, "of a square x, y, s x and y together, d how far x and y are apart, n its number, w WIDE");
        barred("x<0", "...", "...", "...");
        barred("x<1", "o..", "o..", "o..");
        barred("x=0", "o..", "o..", "o..");
        barred("x=2", "..o", "..o", "..o");
        barred("x=3", "...", "...", "...");
        barred("x>1", "..o", "..o", "..o");
        barred("x>2", "...", "...", "...");
        barred("y<1", "ooo", "...", "...");
        barred("y=2", "...", "...", "ooo");
        barred("y=3", "...", "...", "...");
        barred("y>1", "...", "...", "ooo");
        barred("s<1", "o..", "...", "...");
        barred("s=2", "..o", ".o.", "o..");
        barred("s>3", "...", "...", "..o");
        barred("s=4", "...", "...", "..o");
        barred("s>4", "...", "...", "...");
        barred("d<1", "o..", ".o.", "..o");
        barred("d=1", ".o.", "o.o", ".o.");
        barred("d=2", "..o", "...", "o..");
        barred("d>1", "..o", "...", "o..");
        barred("d>2", "...", "...", "...");
        barred("n<1", "o..", "...", "...");
        barred("n=3", "...", "o..", "...");
        barred("n=8", "...", "...", "..o");
        barred("n>7", "...", "...", "..o");
        barred("n=9", "...", "...", "...");
        barred("w<3", "...", "...", "...");
        barred("w=3", "ooo", "ooo", "ooo");
        barred("w>3", "...", "...", "...");
        barred("w<4", "ooo", "ooo", "ooo");
        barred("w>2", "ooo", "ooo", "ooo");
        d.due("n=24 of 5", Due.on("wide 5;bar n=24").told(4), 1 << 24);
        d.due("n=25 of 5", Due.on("wide 5;bar n=25").told(4), 0);
        d.due("s=8 of 5", Due.on("wide 5;bar s=8").told(4), 1 << 24);
        d.due("d=4 of 5", Due.on("wide 5;bar d=4").told(4), Due.bits(4, 20));
        d.due("n>2 of 2", Due.on("wide 2;bar n>2").told(4), 8);
        d.due("n=4 of 2", Due.on("wide 2;bar n=4").told(4), 0);
    }

    private static void testsByFinalWide() {
        d.says(6, "w WIDE");
        d.due("a wide behind it", Due.on("bar w=5;wide 5").told(4), ALL_OF_5);
        d.due("the last wide", Due.on("wide 3;bar w=2;wide 2").told(4), 15);
        d.due("none is 4", Due.on("bar w=4").told(4), 65535);
        d.due("5 if more", Due.on("wide 9;bar w=9").told(4), 0);
        d.due("5 if more", Due.on("wide 9;bar w=5").told(4), ALL_OF_5);
        d.due("2 if less", Due.on("wide 1;bar w=1").told(4), 0);
        d.due("2 if less", Due.on("wide 1;bar w=2").told(4), 15);
        d.due("numbers by it", Due.on("bar n=6;wide 5").told(4), 1 << 6);
        d.due("squares of it", Due.on("bar x=1&y=1;wide 5").told(4), 1 << 6);
    }

    private static void holesAndBars() {
        d.says(6, "A square is a HOLE, if E of some hole holds; BARRED, if it is a HOLE, or E of some bar holds.");
        NoneSees x = Due.on("wide 3;hole n=0;bar n=0;bar n=8;hole n=7");
        d.due("holes", x.told(3), Due.bits(0, 7));
        d.due("barred", x.told(4), Due.bits(0, 7, 8));
        x = Due.on("wide 5;hole w=5");
        d.due("all are holes", x.told(3), ALL_OF_5);
        d.due("all are barred", x.told(4), ALL_OF_5);
        x = Due.on("wide 5;bar w=5");
        d.due("none is a hole", x.told(3), 0);
        d.due("all are barred", x.told(4), ALL_OF_5);
        x = Due.on("hole w=5;bar w=5");
        d.due("none is", x.told(3) + x.told(4), 0);
        x = Due.on("hole !n=5");
        d.due("all but one", x.told(3), 65535 & ~Due.bits(5));
    }

    private static void roundOrFlat() {
        d.says(6, "THE BOARD is ROUND, if the last one of round, flat is round");
        String[] texts = {"wide 3", "round", "flat", "flat;round", "round;flat", "round;round;flat;round",
            "round;wide 3;hole x=1;bar y=1", "flat;round;flat;wide 2"};
        int[] round = {0, 1, 0, 1, 0, 1, 1, 0};
        for (int i = 0; i < texts.length; i++) {
            d.due(texts[i], Due.on(texts[i]).told(1), round[i]);
        }
        NoneSees x = Due.on("round");
        Due.yard(x, "wide 4");
        d.due("not by an older yard", x.told(1), 0);
    }
}
