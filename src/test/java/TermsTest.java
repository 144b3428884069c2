/** The Terms, each sentence whole, from the first one to the last. */
public final class TermsTest {
    private static final int MAN = Due.MAN, ROOK = Due.ROOK, BISHOP = Due.BISHOP, KING = Due.KING, QUEEN = Due.QUEEN,
        HORSE = Due.HORSE, TOLD = Due.TOLD;
    private static final String TEN = "flat;flat;flat;flat;flat;flat;flat;flat;flat;flat";

    private static final Due d = new Due();

    public static void main(String[] args) {
        board();
        kinds();
        text();
        tests();
        yards();
        squares();
        round();
        sight();
        leaps();
        setting();
        asked();
        seen();
        ways();
        mostAndHold();
        moreAndRight();
        game();
        turned();
        reach();
        rubbed();
        odds();
        book();
        bodies();
        image();
        tapes();
        answers();
        d.finish();
    }

    private static void board() {
        d.says(7, "THE BOARD is WIDE times WIDE squares (WIDE 2 .. 5); a square's number is WIDE times its y, and "
            + "its x.");
        for (int wide = 2; wide <= 5; wide++) {
            NoneSees x = Due.with("wide " + wide, 0);
            for (int y = 0; y < wide; y++) {
                for (int column = 0; column < wide; column++) {
                    NoneSees one = Due.with("wide " + wide + ";hole x=" + column + "&y=" + y, 0);
                    d.due("the number of a square", one.told(3), 1 << wide * y + column);
                }
            }
            d.due("the last square", x.set(0, wide * wide - 1), 1);
            d.due("none behind it", x.set(0, wide * wide), -1);
        }
    }

    private static void kinds() {
        d.says(36, "MEN are of KINDS: 0 MAN; 1 ROOK, 2 BISHOP, 3 KING under MAN; 4 QUEEN under ROOK; 5 HORSE under "
            + "BISHOP; 6 TOLD under KING; with a number v (0 .. 9).");
        String[] above = {"0", "10", "20", "30", "410", "520", "630"};
        for (int kind = MAN; kind <= TOLD; kind++) {
            NoneSees x = new NoneSees();
            x.plan(kind, 9);
            for (int k = MAN; k <= TOLD; k++) {
                d.due(kind + " for " + k, x.taken(0, k), above[kind].indexOf('0' + k) >= 0 ? kind : -12);
            }
        }
        d.says(2, "PLANS of MEN 0 .. 5, as they come, each of a KIND, with v: MEN that are set are each of some "
            + "PLAN.");
        NoneSees x = Due.with("", 16, 65, 4, 53, 22, 31);
        int[] told = {16, 65, 4, 53, 22, 31};
        for (int plan = 0; plan < told.length; plan++) {
            d.due("kind of " + plan, x.of(plan, 0), told[plan] / 10);
            d.due("v of " + plan, x.of(plan, 1), told[plan] % 10);
            x.set(5 - plan, plan);
        }
        for (int square = 0; square < told.length; square++) {
            d.due("who stands on " + square, x.at(square, 0), 5 - square);
        }
        d.says(8, "At most one MAN is on a square (none at first).");
        NoneSees y = Due.with("", 0, 10);
        d.due("none at first", y.told(5), 0);
        y.set(0, 6);
        d.due("the same plan", y.set(0, 6), -3);
        d.due("another plan", y.set(1, 6), -3);
        d.due("one man", y.told(2), 1);
        d.due("of the first plan", y.at(6, 0), 0);
    }

    private static void text() {
        d.says(6, "A YARD is read from THE TEXT (bytes, 100 at most): CLAUSES, 1 to 10, with ; between: wide n; "
            + "hole E; bar E; round; flat (one blank ahead of each part behind the word; n 1 or 2 digits).");
        for (String good : new String[] {"wide 3", "wide 03", "hole x=1", "bar x=1", "round", "flat", TEN}) {
            d.due(good, Due.yard(new NoneSees(), good), 0);
        }
        String[] bad = {"", "wide", "wide ", "wide3", "wide  3", "wide 003", "wide 3 ", "hole", "hole ", "holex=1",
            "hole  x=1", "hole x =1", "bar", "bar ", "barx=1", "round ", " round", "flat ", "flat;", ";flat",
            "flat,flat", "flat; round", TEN + ";flat", "Flat", "around"};
        int[] fault = {0, 4, 5, 4, 5, 7, 6, 4, 5, 4, 5, 6, 3, 4, 3, 5, 0, 4, 5, 0, 4, 5, 49, 0, 0};
        for (int i = 0; i < bad.length; i++) {
            d.due("'" + bad[i] + "'", Due.yard(new NoneSees(), bad[i]), -10 - fault[i]);
        }
    }

    private static void tests() {
        d.says(6, "E: T or T|E. T: F or F&T. F: !F, (E), or a TEST: a letter, < or = or >, a number (1 or 2 "
            + "digits): of a square x, y, s x and y together, d how far x and y are apart, n its number, w WIDE.");
        holes("x<1", "o...", "o...", "o...", "o...");
        holes("y>1", "....", "....", "oooo", "oooo");
        holes("s=3", "...o", "..o.", ".o..", "o...");
        holes("d>1", "..oo", "...o", "o...", "oo..");
        holes("n<06", "oooo", "oo..", "....", "....");
        holes("w=4", "oooo", "oooo", "oooo", "oooo");
        holes("w>04", "....", "....", "....", "....");
        holes("x=0|y=0&x=3", "o..o", "o...", "o...", "o...");
        holes("y=0&x=3|x=0", "o..o", "o...", "o...", "o...");
        holes("(x=0|y=0)&x=3", "...o", "....", "....", "....");
        holes("!x=0|y=0", "oooo", ".ooo", ".ooo", ".ooo");
        holes("!(x=0|y=0)", "....", ".ooo", ".ooo", ".ooo");
        holes("!x=0&y=0", ".ooo", "....", "....", "....");
        holes("!!x=0", "o...", "o...", "o...", "o...");
        holes("x=0&y=0|x=1&y=1|x=2&y=2", "o...", ".o..", "..o.", "....");
        d.says(6, "A ( or ! within 4 others is none.");
        d.due("four", Due.yard(new NoneSees(), "bar !(!(x=1))"), 0);
        d.due("five (", Due.yard(new NoneSees(), "bar !(!((x=1)))"), -18);
        d.due("five !", Due.yard(new NoneSees(), "bar !(!(!x=1))"), -18);
        d.due("beside one another", Due.yard(new NoneSees(), "bar ((((x=1))))&((((x=2))))|!!!!x=3"), 0);
        d.says(6, "The FAULT: the place of the first byte with which none begins so (the end of THE TEXT, if it "
            + "ends too early).");
        d.due("ends too early", Due.yard(new NoneSees(), "round;hole (x=1"), -25);
        d.due("a byte that none has", Due.yard(new NoneSees(), "round;hole (x=1]"), -25);
        d.due("ahead of a later one", Due.yard(new NoneSees(), "round;hole z=1;???"), -21);
    }

    /** On a BOARD of 4: of which squares E holds. */
    private static void holes(String e, String... rows) {
        NoneSees x = Due.on("hole " + e);
        d.due("hole " + e, x.told(3), Due.picture(rows));
        NoneSees y = Due.on("bar " + e);
        d.due("bar " + e, y.told(4), Due.picture(rows));
        d.due("no hole by bar " + e, y.told(3), 0);
    }

    private static void yards() {
        d.says(6, "The newest YARD holds (6 at most); by it all MEN, THE AIM, SEEN, the BOOK are taken away; "
            + "without one there are no CLAUSES.");
        NoneSees x = Due.with("", 0);
        d.due("no clauses: the wide", x.told(0), 4);
        d.due("no clauses: round", x.told(1), 0);
        d.due("no clauses: barred", x.told(4), 0);
        for (int yard = 0; yard < 6; yard++) {
            x.set(0, 3);
            x.aim(2);
            x.see(1, 0);
            x.book(3);
            d.due("a yard", Due.yard(x, "wide " + (2 + yard % 4) + ";bar n=" + (yard % 3)), yard);
            d.due("men", x.told(5), 0);
            for (int what = 2; what <= 4; what++) {
                d.due("what was told, " + what, x.count(what), 0);
            }
            d.due("the newest holds", x.told(0), 2 + yard % 4);
            d.due("its bars too", x.told(4), 1 << yard % 3);
        }
        d.due("a seventh", Due.yard(x, "flat"), -4);
        d.says(7, "WIDE (4 without): the last n of wide, 2 if less, 5 if more.");
        d.due("without", Due.on("round").told(0), 4);
        d.due("the last", Due.on("wide 5;flat;wide 3;round").told(0), 3);
        d.due("less", Due.on("wide 5;wide 1").told(0), 2);
        d.due("more", Due.on("wide 2;wide 6").told(0), 5);
        d.due("much more", Due.on("wide 99").told(0), 5);
    }

    private static void squares() {
        d.says(7, "A square is a HOLE, if E of some hole holds; BARRED, if it is a HOLE, or E of some bar holds.");
        NoneSees x = Due.on("hole x=0;bar y=0;wide 3;hole n=8;bar n=8|n=4");
        d.due("holes", x.told(3), Due.picture("o..", "o..", "o.o"));
        d.due("barred", x.told(4), Due.picture("ooo", "oo.", "o.o"));
        d.says(7, "THE BOARD is ROUND, if the last one of round, flat is round: behind each end of a row, a column "
            + "it goes on at the other end.");
        d.due("none of them", Due.on("wide 3").told(1), 0);
        d.due("round", Due.on("flat;round;wide 3").told(1), 1);
        d.due("flat", Due.on("round;flat;wide 3").told(1), 0);
        d.due("round again", Due.on("round;flat;round").told(1), 1);
    }

    private static void round() {
        d.says(11, "THE BOARD is ROUND, if the last one of round, flat is round: behind each end of a row, a column "
            + "it goes on at the other end.");
        NoneSees x = Due.with("wide 5;round;hole n=1", 10, 20, 30, 57);
        d.due("a rook on 0", x.sees(0, 0), Due.picture("..ooo", "o....", "o....", "o....", "o...."));
        d.due("a bishop on 0", x.sees(1, 0), Due.picture(".....", ".o..o", "..oo.", "..oo.", ".o..o"));
        d.due("a king on 0", x.sees(2, 0), Due.picture("....o", "oo..o", ".....", ".....", "oo..o"));
        d.due("a horse on 0", x.sees(3, 0), Due.picture(".....", "..oo.", ".o..o", ".o..o", "..oo."));
    }

    private static void sight() {
        String hole = "wide 5;hole n=7;bar n=11";
        d.says(11, "SEES of a MAN from a square: squares (not its own, no HOLES): MAN: none.");
        d.due("a man on 12", Due.with(hole, 0).sees(0, 12), 0);
        d.says(11, "ROOK: along its row and its column each way, as far as neither a HOLE comes, nor THE BOARD's "
            + "end, nor (ROUND) its own square.");
        d.due("a rook on 12", Due.with(hole, 10).sees(0, 12), Due.picture(".....", ".....", "oo.oo", "..o..", "..o.."));
        d.due("a rook on 2", Due.with(hole, 10).sees(0, 2), Due.picture("oo.oo", ".....", ".....", ".....", "....."));
        d.due("a round one on 12", Due.with(hole + ";round", 10).sees(0, 12),
            Due.picture("..o..", ".....", "oo.oo", "..o..", "..o.."));
        d.says(11, "BISHOP: likewise aslant, the four ways.");
        NoneSees bishop = Due.with(hole, 20);
        d.due("a bishop on 13", bishop.sees(0, 13), Due.picture(".....", "....o", ".....", "..o.o", ".o..."));
        d.due("a bishop on 8", bishop.sees(0, 8), Due.picture("..o.o", ".....", "..o.o", ".o...", "o...."));
        d.says(11, "KING: the squares by one step of these eight ways.");
        d.due("a king on 12", Due.with(hole, 30).sees(0, 12), Due.picture(".....", ".o.o.", ".o.o.", ".ooo.", "....."));
        d.due("a king on 24", Due.with(hole, 30).sees(0, 24), Due.picture(".....", ".....", ".....", "...oo", "...o."));
        d.says(11, "QUEEN: as ROOK, and as BISHOP.");
        NoneSees queen = Due.with(hole, 40);
        d.due("a queen on 12", queen.sees(0, 12), Due.picture("o...o", ".o.o.", "oo.oo", ".ooo.", "o.o.o"));
        d.says(11, "Other MEN do not stand in the way.");
        NoneSees x = Due.with("wide 5", 40);
        int alone = x.sees(0, 0);
        Due.setAll(x, 0, 1, 5, 6, 12);
        d.due("among others", x.sees(0, 0), alone);
        d.due("alone", alone, Due.picture(".oooo", "oo...", "o.o..", "o..o.", "o...o"));
    }

    private static void leaps() {
        d.says(11, "HORSE: as BISHOP, if v is 4 or less; else those that are 1 away along x and 2 along y, or 2 and "
            + "1.");
        int aslant = Due.picture("o...o", ".o.o.", ".....", ".o.o.", "o...o");
        int leaps = Due.picture(".o.o.", "o...o", ".....", "o...o", ".o.o.");
        for (int v = 0; v <= 9; v++) {
            d.due("v " + v, Due.with("wide 5", 50 + v).sees(0, 12), v <= 4 ? aslant : leaps);
        }
        d.due("over a hole", Due.with("wide 5;hole n=7|n=6|n=3", 59).sees(0, 12), leaps & ~(1 << 3));
        d.says(11, "TOLD: as KING, but of the eight ways those alone (0: x 1 more, 1: y 1 more, 2: x 1 less, 3: y 1 "
            + "less, 4: both 1 more, 5: x 1 less and y 1 more, 6: both 1 less, 7: x 1 more and y 1 less) which its "
            + "ROW (eight numbers 0, 1; 1 at first; one for each PLAN) tells.");
        int[] by = {7, 11, 5, 1, 12, 10, 0, 2};
        NoneSees wide = Due.with("wide 5", 60, 61, 30);
        int all = wide.sees(2, 6);
        d.due("at first as a king", wide.sees(0, 6), all);
        for (int way = 0; way < 8; way++) {
            d.due("the way was told", wide.row(0, way, 0), 1);
            d.due("without way " + way, wide.sees(0, 6), all & ~(1 << by[way]));
            d.due("another plan has its own row", wide.sees(1, 6), all);
            d.due("the way was not told", wide.row(0, way, 1), 0);
        }
        d.due("as at first", wide.sees(0, 6), all);
    }

    private static void setting() {
        d.says(8, "A MAN may be SET on a square without a MAN that is not BARRED.");
        NoneSees x = Due.with("wide 3;hole n=0;bar n=1", 0, 10);
        d.due("a hole", x.set(0, 0), -3);
        d.due("barred", x.set(0, 1), -3);
        d.due("an open one", x.set(0, 2), 1);
        d.due("now a man is there", x.set(1, 2), -3);
        d.says(8, "It FITS there, if no MAN SEES that square, and it SEES no MAN from there.");
        d.due("it sees one", x.set(1, 8), 0);
        x.take(8);
        x.set(1, 4);
        d.due("one sees it", x.set(0, 7), 0);
        d.due("neither", x.set(0, 6), 1);
        d.says(7, "AT PEACE: no MAN SEES another one.");
        d.due("the rook sees one", x.told(6), 0);
        x.take(7);
        d.due("it sees none", x.told(6), 1);
        x.clear();
        d.due("nobody", x.told(6), 1);
    }

    /** A rook on 0 sees a king on 2 and a man on 8; the king sees a man on 5; a man on 15 is alone. */
    private static NoneSees five() {
        NoneSees x = Due.with("", 10, 30, 0);
        Due.setAll(x, 0, 0);
        Due.setAll(x, 1, 2);
        Due.setAll(x, 2, 8, 5, 15);
        return x;
    }

    private static void asked() {
        d.says(13, "All that follows is asked, and changes nothing.");
        NoneSees x = five();
        x.aim(3);
        x.see(1, 2);
        x.book(15);
        x.act(1, 2, 5);
        long[] before = state(x);
        for (int plan = 0; plan < 3; plan++) {
            for (int part = 0; part < 2; part++) {
                long all = x.worst() + x.ways(plan, -1) + x.ways(plan, part) + x.after(plan, part) + x.most(plan)
                    + x.hold(plan, part) + x.more(plan) + x.right(part) + x.game(plan) + x.turned(part) + x.alike()
                    + x.reach() + x.rubbed(plan) + x.odds(plan, part) + x.mean(part) + x.looked() + x.judge(0, part);
                long[] now = state(x);
                for (int i = 0; i < before.length; i++) {
                    d.due("as before all that answered " + all + ", " + i, now[i], before[i]);
                }
            }
        }
    }

    private static long[] state(NoneSees x) {
        long[] state = new long[36];
        for (int what = 0; what < 7; what++) {
            state[what] = x.told(what);
            state[7 + what] = x.count(what);
        }
        for (int square = 0; square < 16; square++) {
            state[14 + square] = x.at(square, 0);
        }
        for (int i = 0; i < 6; i++) {
            state[30 + i] = x.trace(i);
        }
        return state;
    }

    private static void seen() {
        NoneSees x = five();
        d.says(10, "SEEN of a square: how many MEN SEE it.");
        int[] seers = {0, 2, 1, 2, 1, 1, 1, 1, 1, 0, 0, 0, 1, 0, 0, 0};
        for (int square = 0; square < 16; square++) {
            d.due("seen of " + square, x.at(square, 1), seers[square]);
        }
        d.says(13, "WORST: the square of the MAN by whom most others are SEEN, or who SEE it (each counted once; of "
            + "several the least; -5: AT PEACE).");
        d.due("the rook and the king have two each", x.worst(), 0);
        x.take(8);
        d.due("the king: one sees it, and it sees one", x.worst(), 2);
        x.take(0);
        d.due("the king and the man have one each", x.worst(), 2);
        x.take(2);
        d.due("at peace", x.worst(), -5);
        NoneSees y = Due.with("", 10);
        Due.setAll(y, 0, 4, 6);
        d.due("two who see each other", y.worst(), 4);
    }

    private static void ways() {
        d.says(14, "WAYS of a PLAN: in how many ways there can be one MAN of it in each row (y), all SET on an "
            + "empty BOARD, AT PEACE; the x of row k in the first one as a row (y 0 first; -5: there is none).");
        NoneSees x = Due.with("wide 5;bar n=0", 10, 40, 0);
        d.due("rooks", x.ways(0, -1), 96);
        int[] first = {1, 0, 2, 3, 4};
        for (int row = 0; row < 5; row++) {
            d.due("the first, row " + row, x.ways(0, row), first[row]);
        }
        d.due("queens", x.ways(1, -1), 8);
        int[] queens = {1, 3, 0, 2, 4};
        for (int row = 0; row < 5; row++) {
            d.due("queens' first, row " + row, x.ways(1, row), queens[row]);
        }
        d.due("men", x.ways(2, -1), 4 * 5 * 5 * 5 * 5);
        x.set(0, 12);
        d.due("the board is empty for it", x.ways(0, -1), 96);
        NoneSees none = Due.with("wide 3", 40);
        d.due("three queens", none.ways(0, -1), 0);
        d.due("no first", none.ways(0, 0), -5);

        d.says(15, "AFTER of a PLAN: the first such way behind what stands now (one MAN in each row, of whatever "
            + "PLAN; else -9) as a row of x: its x of row k (-5: none).");
        NoneSees y = Due.with("wide 3", 10, 0);
        d.due("nobody", y.after(0, 0), -9);
        Due.setAll(y, 1, 0, 4);
        d.due("no man in row 2", y.after(0, 0), -9);
        y.set(0, 8);
        way(y, 0, 2, 1);
        y.clear();
        Due.setAll(y, 1, 2, 3, 6);
        way(y, 2, 0, 1);
        y.clear();
        Due.setAll(y, 1, 2, 4, 6);
        d.due("behind the last one", y.after(0, 1), -5);
        y.set(1, 8);
        d.due("two in row 2", y.after(0, 1), -9);
    }

    private static void way(NoneSees x, int... row) {
        for (int k = 0; k < row.length; k++) {
            d.due("the next, row " + k, x.after(0, k), row[k]);
        }
    }

    private static void mostAndHold() {
        d.says(16, "MOST of a PLAN: the most MEN of it that can be SET on an empty BOARD AT PEACE.");
        NoneSees x = Due.with("wide 5", 0, 10, 20, 30, 40, 57);
        int[] most = {25, 5, 8, 9, 5, 13};
        for (int plan = 0; plan < 6; plan++) {
            d.due("most of " + plan, x.most(plan), most[plan]);
        }
        Due.setAll(x, 4, 12);
        d.due("the board is empty for it", x.most(1), 5);
        d.due("barred squares", Due.with("wide 5;bar y<3", 0).most(0), 10);
        d.due("no square", Due.with("bar w=4", 0).most(0), 0);
        d.due("two in a row, a hole between", Due.with("wide 3;hole x=1", 10).most(0), 2);
        d.says(17, "HOLD of a PLAN: the fewest MEN of it (1 .. 4) that can be SET on an empty BOARD so that each "
            + "square that is no HOLE has a MAN or is SEEN by one (-5: by none so many); the set of their squares, "
            + "of several the least as bits.");
        NoneSees y = Due.with("wide 3", 0, 10, 20, 30, 40);
        d.due("nine men", y.hold(0, 0), -5);
        d.due("three rooks", y.hold(1, 0), 3);
        d.due("in row 0", y.hold(1, 1), Due.picture("ooo", "...", "..."));
        d.due("three bishops", y.hold(2, 0), 3);
        d.due("one for the corners, two for the others", y.hold(2, 1), Due.picture(".o.", "oo.", "..."));
        d.due("a king", y.hold(3, 0), 1);
        d.due("in the middle", y.hold(3, 1), 1 << 4);
        d.due("a queen", y.hold(4, 1), 1 << 4);
        NoneSees z = Due.with("wide 3;bar n=4", 30);
        d.due("not on the middle", z.hold(0, 0), 2);
        d.due("beside it", z.hold(0, 1), Due.picture("...", "o.o", "..."));
        d.due("a hole needs none", Due.with("wide 3;hole y>0", 30).hold(0, 1), 1 << 1);
        d.due("a barred one does", Due.with("wide 3;bar y>0", 30).hold(0, 0), -5);
        d.due("four men", Due.with("wide 2", 0).hold(0, 0), 4);
        d.due("all four", Due.with("wide 2", 0).hold(0, 1), 15);
    }

    private static void moreAndRight() {
        d.says(18, "MORE of a PLAN: squares, as bits, where one more of it may be SET and FITS.");
        NoneSees x = five();
        d.due("a rook", x.more(0), 0);
        d.due("a king", x.more(1), 0);
        d.due("a man", x.more(2), Due.picture("....", "....", ".ooo", ".oo."));
        x.clear();
        x.set(1, 5);
        d.due("kings", x.more(1), Due.picture("...o", "...o", "...o", "oooo"));
        d.says(19, "RIGHT: the fewest MEN (0 .. 4) without whom all others are AT PEACE (-5: more); the set of "
            + "their squares, of several the least as bits.");
        NoneSees y = five();
        d.due("two", y.right(0), 2);
        d.due("the rook and the king", y.right(1), Due.bits(0, 2));
        y.take(15);
        y.take(8);
        d.due("one", y.right(0), 1);
        d.due("the king", y.right(1), Due.bits(2));
        y.take(2);
        d.due("none", y.right(0), 0);
        d.due("nobody", y.right(1), 0);
        NoneSees four = Due.with("wide 5", 10);
        Due.setBits(four, 0, Due.picture("o...o", ".....", ".....", ".....", "o...o"));
        d.due("of four in a ring two", four.right(0), 2);
        d.due("the least across", four.right(1), Due.bits(4, 20));
        Due.setBits(four, 0, Due.picture(".o.o.", ".....", ".....", ".....", "....."));
        d.due("of four in a row three, of the ring one", four.right(0), 4);
        d.due("the four", four.right(1), Due.bits(0, 1, 4, 20));
        Due.setBits(four, 0, Due.picture("..o..", ".....", ".....", ".....", "....."));
        d.due("more than four", four.right(0), -5);
        d.due("and no set", four.right(1), -5);
    }

    private static void game() {
        d.says(20, "GAME of a PLAN: two SET MEN of it by turns, each so that it FITS; who can not has lost: whether "
            + "who begins now can surely win (-9: MORE has more than 9 squares).");
        d.due("3 of 9", Due.with("wide 3", 0).game(0), 1);
        d.due("2 of 4", Due.with("wide 2", 0).game(0), 0);
        d.due("4 times 4", Due.with("", 0).game(0), -9);
        d.due("rooks: three moves", Due.with("wide 3", 10).game(0), 1);
        d.due("rooks: two moves", Due.with("wide 2", 10).game(0), 0);
        d.due("a queen in the middle", Due.with("wide 3", 40).game(0), 1);
        d.due("kings in a row of three", Due.with("wide 3;bar y>0", 30).game(0), 1);
        d.due("kings in a row of four", Due.with("wide 4;bar y>0", 30).game(0), 0);
        d.due("kings in a row of five", Due.with("wide 5;bar y>0", 30).game(0), 1);
        d.due("kings in two far rows of three", Due.with("wide 5;bar y>0&y<4|x>2", 30).game(0), 0);
        NoneSees x = Due.with("wide 3", 0);
        x.set(0, 4);
        d.due("8 are left", x.game(0), 0);
        d.due("none is left", Due.with("bar w=4", 0).game(0), 0);
    }

    private static void turned() {
        d.says(21, "TURNED by how (0 .. 7): each MAN is moved: by 4 .. 7 first x becomes WIDE less 1 less x; then, "
            + "how modulo 4 times, x becomes WIDE less 1 less y, and y what x was: whether MEN are on just the same "
            + "squares then (of whatever PLANS).");
        turned("11111111", "o..o", "....", "....", "o..o");
        turned("11110000", ".o..", "...o", "o...", "..o.");
        turned("10000001", "oo..", "oo..", "....", "....");
        d.says(22, "ALIKE: by how many of the eight it is so.");
        d.due("nobody", new NoneSees().alike(), 8);
        NoneSees x = Due.with("", 0, 40);
        x.set(0, 0);
        d.due("a corner", x.alike(), 2);
        x.set(1, 15);
        d.due("two corners", x.alike(), 4);
        x.set(0, 3);
        d.due("three corners", x.alike(), 2);
        x.set(1, 12);
        d.due("four corners", x.alike(), 8);
        x.set(1, 1);
        d.due("none but itself", x.alike(), 1);
    }

    private static void turned(String byHow, String... rows) {
        NoneSees x = Due.with("", 0, 10);
        int men = Due.picture(rows);
        for (int square = 0; square < 16; square++) {
            if ((men >> square & 1) != 0) {
                x.set(square % 2, square);
            }
        }
        for (int how = 0; how < 8; how++) {
            d.due(rows[0] + " by " + how, x.turned(how), byHow.charAt(how) - '0');
        }
    }

    private static void reach() {
        d.says(23, "THE AIM, told by hand: squares (5 at most).");
        NoneSees full = new NoneSees();
        for (int square = 0; square < 5; square++) {
            d.due("a square", full.aim(square), square + 1);
        }
        d.due("a sixth", full.aim(5), -4);
        d.says(24, "REACH: a step of a MAN: to a square 1 away along x or y (not ROUND) that is not BARRED (other "
            + "MEN not being in its way): the fewest steps, together, by which MEN (5 at most, else -9) come to be "
            + "on just the squares of THE AIM, one on each (-5: by none, or there are not as many).");
        d.due("as is", reach("wide 5", Due.bits(3, 7), 7, 3), 0);
        d.due("from corner to corner", reach("wide 5", Due.bits(0), 24), 8);
        d.due("not round", reach("wide 5;round", Due.bits(0), 24), 8);
        d.due("round a bar", reach("wide 5;bar x=2&y<4", Due.bits(0), 4), 12);
        d.due("past a hole", reach("wide 5;hole n=1", Due.bits(0), 2), 4);
        d.due("through another man", reach("wide 5", Due.bits(0, 1), 1, 2), 2);
        d.due("each the near one", reach("wide 5", Due.bits(0, 4), 3, 1), 2);
        d.due("no one twice", reach("wide 5", Due.bits(0, 1), 24, 0), 7);
        d.due("behind a bar", reach("wide 5;bar x=2", Due.bits(0), 4), -5);
        d.due("on a bar", reach("wide 5;bar n=4", Due.bits(0), 4), -5);
        d.due("fewer", reach("wide 5", Due.bits(0), 4, 5), -5);
        d.due("more", reach("wide 5", Due.bits(0, 1), 4), -5);
        d.due("six", reach("wide 5", Due.bits(0, 1, 2, 3, 4, 5), 4), -9);
    }

    private static int reach(String yard, int men, int... aim) {
        NoneSees x = Due.with(yard, 40);
        Due.setBits(x, 0, men);
        for (int square : aim) {
            x.aim(square);
        }
        return x.reach();
    }

    private static void rubbed() {
        d.says(25, "SEEN told by hand: a square, and how many MEN SEE it (8 at most).");
        NoneSees full = new NoneSees();
        for (int i = 1; i <= 8; i++) {
            d.due("a square, any one", full.see(i / 2, i), i);
        }
        d.due("a ninth", full.see(9, 0), -4);
        d.says(26, "RUBBED of a PLAN: those squares, as bits, where one more MAN of it may be SET by whom all of "
            + "that is so.");
        NoneSees x = Due.with("wide 3;bar n=1", 10, 0, 30);
        d.due("nothing told: wherever one may be", x.rubbed(1), Due.picture("o.o", "ooo", "ooo"));
        x.see(8, 1);
        d.due("a rook", x.rubbed(0), Due.picture("..o", "..o", "oo."));
        d.due("a man sees none", x.rubbed(1), 0);
        x.see(0, 0);
        d.due("a rook, not seeing 0", x.rubbed(0), Due.picture("...", "..o", ".o."));
        x.set(2, 4);
        d.due("the king sees 0", x.rubbed(0), 0);
        x.see(-1, 0);
        x.see(8, 2);
        x.see(0, 1);
        d.due("with the king's one", x.rubbed(0), Due.picture("...", "..o", ".o."));
        d.due("it fits or not", x.rubbed(2), Due.picture("...", "..o", ".o."));
    }

    private static void odds() {
        d.says(27, "ODDS of a PLAN: if one of it is SET on any square where it may be, each alike likely: how "
            + "likely it FITS: a fraction in lowest terms (NO: nowhere).");
        NoneSees x = Due.with("wide 3;bar n=8", 10, 0, 40);
        x.set(0, 0);
        fraction("a rook: 3 of 7", x.odds(0, 0), x.odds(0, 1), 3, 7);
        x.set(1, 4);
        fraction("a man: 2 of 6", x.odds(1, 0), x.odds(1, 1), 2, 6);
        fraction("a queen: 0 of 6", x.odds(2, 0), x.odds(2, 1), 0, 6);
        NoneSees none = Due.with("wide 2;bar w=2", 0);
        d.due("nowhere", none.odds(0, 0), NoneSees.NO);
        d.due("nowhere", none.odds(0, 1), NoneSees.NO);
        d.says(28, "MEAN: how many squares a MAN SEES, of all MEN that there are: a fraction in lowest terms (NO: "
            + "none).");
        fraction("4 and 0 of 2", x.mean(0), x.mean(1), 4, 2);
        x.set(1, 1);
        x.set(2, 6);
        fraction("4, 0, 0 and 6 of 4", x.mean(0), x.mean(1), 4 + 6, 4);
        d.due("nobody", none.mean(0), NoneSees.NO);
    }

    /** The two answers are the parts of a fraction, in lowest terms. */
    private static void fraction(String what, long above, long below, int dueAbove, int dueBelow) {
        int a = dueAbove;
        int b = dueBelow;
        while (b != 0) {
            int rest = a % b;
            a = b;
            b = rest;
        }
        d.due(what + ", above", above, dueAbove / a);
        d.due(what + ", below", below, dueBelow / a);
    }

    private static void book() {
        d.says(30, "A BOOK told by hand: squares (12 at most): LOOKED at: the first that has no MAN, told by its "
            + "place in the BOOK, from 0 (-5: none).");
        NoneSees x = Due.with("", 0);
        d.due("an empty book", x.looked(), -5);
        for (int i = 0; i < 12; i++) {
            d.due("a square", x.book(i / 2), i + 1);
        }
        d.due("a thirteenth", x.book(6), -4);
        for (int square = 0; square < 6; square++) {
            d.due("by its place", x.looked(), 2 * square);
            x.set(0, square);
        }
        d.due("all have men", x.looked(), -5);
        x.take(4);
        d.due("one has not", x.looked(), 8);
    }

    /** What act() answers, and the bodies that ran. */
    private static void acted(NoneSees x, int plan, int act, int with, int answer, int... ran) {
        d.due("act " + act + " with " + with, x.act(plan, act, with), answer);
        d.due("how many ran", x.count(6), ran.length);
        for (int i = 0; i < ran.length; i++) {
            d.due("body " + i, x.trace(i), ran[i]);
        }
        d.due("no more", x.trace(ran.length), -1);
    }

    private static void bodies() {
        d.says(34, "ACTS of a PLAN with x (wrapping): 0 looks, 1 sees, 2 tells; i its number. BODIES: MAN: 10 "
            + "looks: x + i. 11 sees: looks(x) - v. 12 tells: sees(x) * 2.");
        NoneSees x = Due.with("", 0, 3, 14, 20, 31, 42);
        acted(x, 1, 0, 5, 6, 10);
        acted(x, 1, 1, 5, 3, 11, 10);
        acted(x, 1, 2, 5, 6, 12, 11, 10);
        acted(x, 1, 0, Integer.MAX_VALUE, Integer.MIN_VALUE, 10);
        acted(x, 0, 2, Integer.MAX_VALUE, -2, 12, 11, 10);
        d.says(34, "ROOK: 20 sees: super.sees(x) ^ 6.");
        acted(x, 2, 0, 5, 7, 10);
        acted(x, 2, 1, 5, 3 ^ 6, 20, 11, 10);
        acted(x, 2, 2, 5, 10, 12, 20, 11, 10);
        d.says(34, "BISHOP: 30 looks: super.looks(x * 3).");
        acted(x, 3, 0, 5, 18, 30, 10);
        acted(x, 3, 1, 5, 18, 11, 30, 10);
        acted(x, 3, 2, 5, 36, 12, 11, 30, 10);
        d.says(34, "KING: 40 tells: super.tells(x) + sees(1).");
        acted(x, 4, 0, 5, 9, 10);
        acted(x, 4, 1, 5, 8, 11, 10);
        acted(x, 4, 2, 5, 20, 40, 12, 11, 10, 11, 10);
        d.says(34, "QUEEN: 50 looks: -super.looks(x). 51 sees: super.sees(x + 1).");
        acted(x, 5, 0, 5, -10, 50, 10);
        acted(x, 5, 1, 5, -13 ^ 6, 51, 20, 11, 50, 10);
        acted(x, 5, 2, 5, -22, 12, 51, 20, 11, 50, 10);
        d.says(34, "HORSE: 60 tells: super.tells(x - i).");
        NoneSees y = Due.with("", 0, 57, 65);
        acted(y, 1, 0, 5, 16, 30, 10);
        acted(y, 1, 1, 5, 9, 11, 30, 10);
        acted(y, 1, 2, 5, 12, 60, 12, 11, 30, 10);
        d.says(34, "TOLD: 70 sees: super.sees(x) + super.looks(2). 71 looks: super.looks(x) ^ v.");
        acted(y, 2, 0, 5, 7 ^ 5, 71, 10);
        acted(y, 2, 1, 5, 1, 70, 11, 71, 10, 10);
        acted(y, 2, 2, 5, 7, 40, 12, 70, 11, 71, 10, 10, 70, 11, 71, 10, 10);
        d.says(34, "looks(..) and so on: the body of its KIND, or, if that has none, of the next KIND above that "
            + "has one; super.looks(..): so from the KIND above the body's on; all that stands in a body is done "
            + "from the left on.");
        acted(y, 0, 2, 5, 10, 12, 11, 10);
        acted(y, 2, 2, 0, 2 * ((0 + 2 ^ 5) - 5 + 4) + 5, 40, 12, 70, 11, 71, 10, 10, 70, 11, 71, 10, 10);
        d.says(35, "THE TRACE: the numbers of the bodies that ran in the latest act(), as they began; the first 20 "
            + "are kept.");
        y.act(1, 2, 5);
        int[] ran = {60, 12, 11, 30, 10};
        for (int i = 0; i < ran.length; i++) {
            d.due("the latest, body " + i, y.trace(i), ran[i]);
        }
        d.due("none of the one before", y.trace(5), -1);
    }

    private static void image() {
        d.says(33, "THE IMAGE: PLANS with all that is theirs, MEN, THE AIM, SEEN, the BOOK, which YARD holds.");
        NoneSees x = Due.with("wide 5;round", 60, 10);
        x.row(0, 3, 0);
        Due.setAll(x, 1, 7);
        x.aim(3);
        x.see(8, 1);
        x.book(7);
        d.due("plans", x.image(), 2);
        x.row(0, 3, 1);
        x.row(0, 4, 0);
        x.plan(0, 0);
        Due.yard(x, "wide 3;hole n=3");
        Due.setAll(x, 2, 0, 1);
        x.aim(1);
        x.aim(2);
        x.see(0, 0);
        x.see(0, 0);
        x.book(0);
        x.book(4);
        x.tape(1, 2, 3);
        x.feed('w');
        for (int time = 0; time < 2; time++) {
            d.due("plans", x.undo(), 2);
            d.due("no third", x.of(2, 0), -1);
            d.due("its row", x.sees(0, 6), Due.picture("o.o..", "o.o..", "ooo..", ".....", "....."));
            d.due("which yard holds", x.told(0), 5);
            d.due("round", x.told(1), 1);
            d.due("holes", x.told(3), 0);
            d.due("men", x.told(5), 1 << 7);
            d.due("of which plan", x.at(7, 0), 1);
            for (int what = 2; what <= 4; what++) {
                d.due("what was told, " + what, x.count(what), 1);
            }
            d.due("the aim", x.reach(), 2);
            d.due("seen", x.rubbed(1), Due.picture("ooo.o", "...o.", "ooo.o", "ooo.o", "ooo.o"));
            d.due("the book", x.looked(), -5);
            d.due("yards are not of it", x.count(1), 2);
            d.due("nor is the text", x.count(5), 1);
            d.due("nor are tapes", x.read(1, 2), 0);
            x.take(7);
            x.book(1);
            x.row(0, 0, 0);
            x.aim(-1);
            x.see(-1, 0);
        }
    }

    private static void tapes() {
        d.says(38, "TAPES 0 .. 5 hold nothing (at first), or a row of 0 bytes, 1 shorts, 2 ints, 3 longs, 4 "
            + "booleans (items 0, 1).");
        NoneSees x = new NoneSees();
        long[] kept = {(byte) 0x89, (short) 0x6789, 0x23456789, 0x0123456723456789L, 1};
        for (int tape = 0; tape < 6; tape++) {
            d.due("nothing at first", x.item(tape, 0, 1), -11);
        }
        for (int sort = 0; sort < 5; sort++) {
            d.due("a row", x.tape(sort, sort, 2), 1);
            d.due("an item", x.item(sort, 1, 0x0123456723456789L), 1);
            d.due("what it keeps", x.read(sort, 1), kept[sort]);
            d.due("the other one", x.read(sort, 0), 0);
        }
        d.says(31, "Whether there is a MAN, told by a row of booleans, from a place on, square by square, is "
            + "JUDGED: the first that is otherwise; -5: none, or there is none to look at; 100 and how many were "
            + "looked at, if the row ends ahead of that (or the place is below 0, or the TAPE holds nothing).");
        NoneSees y = Due.with("wide 2", 0);
        Due.setAll(y, 0, 1, 2);
        y.tape(0, 4, 7);
        y.item(0, 3, 1);
        y.item(0, 4, 1);
        d.due("0 1 1 0 from 2 on", y.judge(0, 2), -5);
        d.due("0 0 1 1 from 1 on", y.judge(0, 1), 1);
        d.due("1 1 0 0 from 3 on", y.judge(0, 3), 0);
        y.item(0, 5, 1);
        d.due("0 1 1 1 from 2 on", y.judge(0, 2), 3);
        y.item(0, 6, 1);
        y.item(0, 5, 0);
        d.due("0 1 and the end", y.judge(0, 5), 102);
        d.due("1 and the end", y.judge(0, 6), 0);
        d.due("the end", y.judge(0, 7), 100);
        d.due("below 0", y.judge(0, -1), 100);
        d.due("nothing", y.judge(1, 0), 100);
        d.says(41, "The host's refusals: NOTHING (-11): nothing is there; CAST (-12): another sort or KIND; PLACE "
            + "(-13): no such place; SIZE (-14): a size below 0.");
        d.due("nothing", y.shift(0, 0, 1, 0, 1), -11);
        y.tape(1, 3, 4);
        d.due("another sort", y.shift(0, 0, 1, 0, 1), -12);
        d.due("another kind", y.taken(0, ROOK), -12);
        d.due("no such place", y.shift(0, 0, 0, 7, 1), -13);
        d.due("below 0", y.tape(1, 3, -1), -14);
    }

    private static void answers() {
        d.says(8, "Answers: NONE (-1) no such number; BAD (-2) a number is not as told; STATE (-3) as told; FULL "
            + "(-4); the first that a call's words name. What is answered so changes nothing; what is asked changes "
            + "nothing.");
        NoneSees x = Due.with("", 0, 0, 0, 0, 60, 0);
        d.due("no such plan", x.row(6, 0, 2), -1);
        d.due("and no such way", x.row(4, 8, 2), -1);
        d.due("n is not as told", x.row(0, 0, 2), -2);
        d.due("another kind", x.row(0, 0, 1), -3);
        d.due("no such kind", x.plan(7, 10), -1);
        d.due("v is not as told", x.plan(6, 10), -2);
        d.due("there are 6", x.plan(6, 9), -4);
        x.set(0, 15);
        d.due("no such plan, and a man is there", x.set(6, 15), -1);
        d.due("a man is there", x.set(1, 15), -3);
        d.due("he is as he was", x.at(15, 0), 0);
        d.due("the plans too", x.of(4, 0), TOLD);
        d.due("its row too", x.sees(4, 5), Due.picture("ooo.", "o.o.", "ooo.", "...."));
        d.due("and so many", x.count(0), 6);
    }
}
