/** Promises 7 to 12, each sentence that names a boundary by itself: what is told, men, what they see. */
public final class BoundsMenTest {
    private static final Due d = new Due();
    private static final int MIN = Integer.MIN_VALUE, MAX = Integer.MAX_VALUE;
    private static final int ALL_OF_5 = (1 << 25) - 1;

    public static void main(String[] args) {
        toldNone();
        toldMany();
        toldPeace();
        setNone();
        setState();
        setOnOne();
        setFirstNamed();
        setFits();
        takeNone();
        takeState();
        atNone();
        atNobody();
        atSeen();
        seesNone();
        seesNotItself();
        seesMan();
        seesRook();
        seesRookHoles();
        seesRookRound();
        seesBishop();
        seesBishopRound();
        seesKing();
        seesQueen();
        seesHorseByV();
        seesHorse();
        seesHorseRound();
        seesTold();
        seesRoundEnds();
        seesOverMen();
        clearMany();
        d.finish();
    }

    private static void toldNone() {
        d.says(7, "NONE.");
        int[] none = {-1, 7, 8, MIN, MAX};
        NoneSees x = Due.with("wide 2;round;bar n=1;hole n=2", 0);
        for (int what : none) {
            d.due("told(" + what + ")", x.told(what), -1);
        }
        d.due("told(0)", x.told(0), 2);
        d.due("told(6)", x.told(6), 1);
    }

    private static void toldMany() {
        d.says(7, "What 0 WIDE, 1 whether ROUND, 2 how many MEN, 3 HOLES, 4 BARRED squares, 5 squares with MEN "
            + "(bits each), 6 whether AT PEACE.");
        NoneSees x = Due.with("wide 5", 0);
        d.due("the widest", x.told(0), 5);
        d.due("flat", x.told(1), 0);
        d.due("at peace", x.told(6), 1);
        d.due("no men", x.told(2), 0);
        d.due("no holes", x.told(3), 0);
        d.due("none barred", x.told(4), 0);
        d.due("no squares", x.told(5), 0);
        Due.setAll(x, 0, 24);
        d.due("the last square", x.told(5), 1 << 24);
        Due.setBits(x, 0, ALL_OF_5 >> 1);
        d.due("men everywhere", x.told(2), 25);
        d.due("on all squares", x.told(5), ALL_OF_5);
        Due.yard(x, "wide 5;hole n<99");
        d.due("all are holes", x.told(3), ALL_OF_5);
        d.due("so all are barred", x.told(4), ALL_OF_5);
        Due.yard(x, "wide 2;round;hole n=3;bar n=0");
        d.due("the least wide", x.told(0), 2);
        d.due("round", x.told(1), 1);
        d.due("the last one", x.told(3), 8);
        d.due("the first and the last", x.told(4), 9);
    }

    private static void toldPeace() {
        d.says(7, "AT PEACE: no MAN SEES another one.");
        NoneSees x = Due.with("wide 5", 10, 0, 60);
        d.due("no man", x.told(6), 1);
        Due.setAll(x, 0, 0);
        d.due("one", x.told(6), 1);
        Due.setAll(x, 1, 6);
        d.due("two apart", x.told(6), 1);
        Due.setAll(x, 1, 4);
        d.due("one sees another who sees none", x.told(6), 0);
        x.take(0);
        d.due("only those who see none", x.told(6), 1);
        Due.setBits(x, 1, ALL_OF_5 & ~x.told(5));
        d.due("all squares, and none sees", x.told(6), 1);
        x.take(24);
        Due.setAll(x, 2, 24);
        d.due("the last one sees", x.told(6), 0);
        Due.yard(x, "wide 5;round");
        Due.setAll(x, 2, 0, 24);
        d.due("across both ends", x.told(6), 0);
        Due.yard(x, "wide 5;hole n=1");
        Due.setAll(x, 0, 0, 2);
        d.due("a hole between", x.told(6), 1);
    }

    private static void setNone() {
        d.says(8, "THE BOARD is WIDE times WIDE squares (WIDE 2 .. 5)");
        for (int wide = 2; wide <= 5; wide++) {
            NoneSees x = Due.with("wide " + wide, 0);
            int[] none = {-1, wide * wide, wide * wide + 1, 32, MIN, MAX};
            for (int square : none) {
                d.due("wide " + wide + " set(0, " + square + ")", x.set(0, square), -1);
                d.due("wide " + wide + " take(" + square + ")", x.take(square), -1);
                d.due("wide " + wide + " at(" + square + ", 0)", x.at(square, 0), -1);
                d.due("wide " + wide + " sees(0, " + square + ")", x.sees(0, square), -1);
            }
            d.due("the first square", x.set(0, 0), 1);
            d.due("the last square", x.set(0, wide * wide - 1), 1);
            d.due("both", x.told(5), 1 | 1 << wide * wide - 1);
        }
        d.says(8, "NONE");
        NoneSees x = Due.with("", 0, 10);
        int[] none = {-1, 2, 6, MIN, MAX};
        for (int plan : none) {
            d.due("set(" + plan + ", 0)", x.set(plan, 0), -1);
        }
        d.due("set(1, 0)", x.set(1, 0), 1);
    }

    private static void setState() {
        d.says(8, "A MAN may be SET on a square without a MAN that is not BARRED.");
        NoneSees x = Due.with("wide 5;hole n=0;bar n=12;hole n=24;bar n=24", 0, 0);
        for (int square = 0; square < 25; square++) {
            boolean barred = square % 12 == 0;
            d.due("set(0, " + square + ")", x.set(0, square), barred ? -3 : 1);
            d.due("set(1, " + square + ")", x.set(1, square), -3);
        }
        d.due("22 men", x.told(2), 22);
        for (int square = 0; square < 25; square++) {
            x.take(square);
            d.due("set(1, " + square + ")", x.set(1, square), square % 12 == 0 ? -3 : 1);
        }
    }

    private static void setOnOne() {
        d.says(8, "At most one MAN is on a square");
        NoneSees x = Due.with("", 0, 10);
        d.due("set(0, 5)", x.set(0, 5), 1);
        d.due("the same plan", x.set(0, 5), -3);
        d.due("another plan", x.set(1, 5), -3);
        d.due("who was first stays", x.at(5, 0), 0);
        d.due("told(2)", x.told(2), 1);
        d.due("take(5)", x.take(5), 0);
        d.due("free again", x.set(1, 5), 1);
        d.due("at(5, 0)", x.at(5, 0), 1);
    }

    private static void setFirstNamed() {
        d.says(8, "NONE; STATE: it may not be.");
        NoneSees x = Due.with("wide 3;hole n=4;bar n=8", 0);
        Due.setAll(x, 0, 0);
        d.due("plan, a man", x.set(1, 0), -1);
        d.due("plan, a hole", x.set(-1, 4), -1);
        d.due("plan, barred", x.set(6, 8), -1);
        d.due("plan, square", x.set(1, 9), -1);
        d.due("a man", x.set(0, 0), -3);
        d.due("a hole", x.set(0, 4), -3);
        d.due("barred", x.set(0, 8), -3);
    }

    private static void setFits() {
        d.says(8, "A MAN of a PLAN is SET on a square: whether it FITS there (1, 0).");
        d.due("alone", Due.with("wide 5", 10).set(0, 24), 1);
        d.says(8, "It FITS there, if no MAN SEES that square, and it SEES no MAN from there.");
        NoneSees x = Due.with("wide 5", 0, 10, 60);
        for (int way = 1; way < 8; way++) {
            x.row(2, way, 0);
        }
        d.due("nobody is there", x.set(1, 0), 1);
        d.due("is seen, sees none", x.set(0, 4), 0);
        d.due("sees, is seen by none", x.set(2, 8), 1);
        d.due("it is seen by that one, and sees none", x.set(0, 9), 0);
        x.clear();
        Due.setAll(x, 0, 9);
        d.due("it sees one, is seen by none", x.set(2, 8), 0);
        x.clear();
        Due.setAll(x, 1, 0);
        d.due("both see each other", x.set(1, 24 - 4), 0);
        d.due("neither", x.set(1, 18), 1);
        x.clear();
        Due.setBits(x, 0, ALL_OF_5 & ~Due.bits(12));
        d.due("the last square, among men who see none", x.set(0, 12), 1);
    }

    private static void takeNone() {
        d.says(9, "NONE: square");
        int[] none = {-1, 16, 25, MIN, MAX};
        NoneSees x = Due.with("", 0, 0);
        Due.setAll(x, 0, 0);
        Due.setAll(x, 1, 15);
        for (int square : none) {
            d.due("take(" + square + ")", x.take(square), -1);
        }
        d.due("take(0)", x.take(0), 0);
        d.due("take(15)", x.take(15), 1);
        d.due("told(2)", x.told(2), 0);
    }

    private static void takeState() {
        d.says(9, "STATE: there is none.");
        NoneSees x = Due.with("wide 3;hole n=4;bar n=5", 0);
        for (int square = 0; square < 9; square++) {
            d.due("take(" + square + ")", x.take(square), -3);
        }
        Due.setAll(x, 0, 3);
        d.due("take(2)", x.take(2), -3);
        d.due("take(3)", x.take(3), 0);
        d.due("take(3) again", x.take(3), -3);
        Due.setAll(x, 0, 3);
        x.clear();
        d.due("cleared", x.take(3), -3);
    }

    private static void atNone() {
        d.says(10, "NONE.");
        int[] none = {-1, 3, 4, MIN, MAX};
        NoneSees x = Due.with("wide 2", 0);
        Due.setAll(x, 0, 0);
        for (int what : none) {
            d.due("at(0, " + what + ")", x.at(0, what), -1);
            d.due("at(3, " + what + ")", x.at(3, what), -1);
        }
        int[] noSquares = {-1, 4, 16, MIN, MAX};
        for (int square : noSquares) {
            for (int what = -1; what < 4; what++) {
                d.due("at(" + square + ", " + what + ")", x.at(square, what), -1);
            }
        }
        d.due("at(0, 0)", x.at(0, 0), 0);
        d.due("at(3, 1)", x.at(3, 1), 0);
        d.due("at(0, 2)", x.at(0, 2), 0);
    }

    private static void atNobody() {
        d.says(10, "0 the PLAN of the MAN there (-5: none), 1 SEEN, 2 what that MAN SEES (bits; -5)");
        NoneSees x = Due.with("wide 2;hole n=3;bar n=1", 30, 0, 0, 0, 0, 30);
        for (int square = 0; square < 4; square++) {
            d.due("at(" + square + ", 0)", x.at(square, 0), -5);
            d.due("at(" + square + ", 1)", x.at(square, 1), 0);
            d.due("at(" + square + ", 2)", x.at(square, 2), -5);
        }
        Due.setAll(x, 5, 0);
        d.due("at(0, 0)", x.at(0, 0), 5);
        d.due("at(0, 1)", x.at(0, 1), 0);
        d.due("at(0, 2)", x.at(0, 2), Due.bits(1, 2));
        d.due("at(1, 1)", x.at(1, 1), 1);
        d.due("a hole is seen by none", x.at(3, 1), 0);
        Due.setAll(x, 1, 2);
        d.due("who sees none", x.at(2, 2), 0);
        x.take(0);
        d.due("at(0, 0)", x.at(0, 0), -5);
        d.due("at(0, 2)", x.at(0, 2), -5);
    }

    private static void atSeen() {
        d.says(10, "SEEN of a square: how many MEN SEE it.");
        NoneSees x = Due.with("wide 5;round", 40);
        Due.setBits(x, 0, ALL_OF_5 & ~Due.bits(12));
        d.due("rings of a queen: all but eight", x.at(12, 1), 16);
        Due.setAll(x, 0, 12);
        d.due("not by itself", x.at(12, 1), 16);
        d.due("at the board's end", x.at(0, 1), 16);
        Due.yard(x, "wide 5");
        Due.setBits(x, 0, ALL_OF_5);
        d.due("flat, the middle", x.at(12, 1), 16);
        d.due("flat, a corner", x.at(24, 1), 12);
        x.clear();
        d.due("by none", x.at(24, 1), 0);
    }

    private static void seesNone() {
        d.says(11, "NONE.");
        int[] noPlans = {-1, 1, 6, MIN, MAX};
        int[] noSquares = {-1, 9, 25, MIN, MAX};
        NoneSees x = Due.with("wide 3;hole n=4", 10);
        for (int plan : noPlans) {
            d.due("sees(" + plan + ", 0)", x.sees(plan, 0), -1);
            d.due("sees(" + plan + ", 9)", x.sees(plan, 9), -1);
        }
        for (int square : noSquares) {
            d.due("sees(0, " + square + ")", x.sees(0, square), -1);
        }
        d.due("sees(0, 0)", x.sees(0, 0), Due.picture(".oo", "o..", "o.."));
        d.due("sees(0, 8)", x.sees(0, 8), Due.picture("..o", "..o", "oo."));
        d.due("from a hole", x.sees(0, 4), Due.picture(".o.", "o.o", ".o."));
    }

    private static void seesNotItself() {
        d.says(11, "squares (not its own, no HOLES)");
        String[] ends = {"", ";round", ";hole x=1&y=1", ";round;hole d=2", ";round;hole n=0|n=3;bar n=2"};
        int[] plans = {0, 10, 20, 30, 40, 54, 55, 60};
        for (int wide = 2; wide <= 5; wide++) {
            for (String end : ends) {
                for (int plan : plans) {
                    NoneSees x = Due.with("wide " + wide + end, plan);
                    for (int square = 0; square < wide * wide; square++) {
                        int none = 1 << square | x.told(3) | -1 << wide * wide;
                        d.due("wide " + wide + end + " " + plan + " from " + square, x.sees(0, square) & none, 0);
                    }
                }
            }
        }
    }

    private static void seesMan() {
        d.says(11, "MAN: none.");
        for (int wide = 2; wide <= 5; wide++) {
            NoneSees x = Due.with("wide " + wide, 0, 9);
            NoneSees round = Due.with("round;wide " + wide, 0, 9);
            for (int square = 0; square < wide * wide; square++) {
                d.due("from " + square, x.sees(0, square) | x.sees(1, square), 0);
                d.due("round, from " + square, round.sees(0, square) | round.sees(1, square), 0);
            }
        }
    }

    private static void sees(String text, int plan, int square, String... rows) {
        d.due(text + ", plan " + plan + ", from " + square, Due.with(text, plan).sees(0, square), Due.picture(rows));
    }

    private static void seesRook() {
        d.says(11, "ROOK: along its row and its column each way, as far as neither a HOLE comes, nor THE BOARD's end");
        sees("wide 2", 10, 0, ".o", "o.");
        sees("wide 2", 10, 3, ".o", "o.");
        sees("wide 3", 10, 4, ".o.", "o.o", ".o.");
        sees("wide 5", 10, 0, ".oooo", "o....", "o....", "o....", "o....");
        sees("wide 5", 10, 12, "..o..", "..o..", "oo.oo", "..o..", "..o..");
        sees("wide 5", 10, 24, "....o", "....o", "....o", "....o", "oooo.");
        sees("wide 5", 10, 9, "....o", "oooo.", "....o", "....o", "....o");
    }

    private static void seesRookHoles() {
        d.says(11, "as far as neither a HOLE comes");
        sees("wide 5;hole n=10", 10, 12, "..o..", "..o..", ".o.oo", "..o..", "..o..");
        sees("wide 5;hole n=13", 10, 12, "..o..", "..o..", "oo...", "..o..", "..o..");
        sees("wide 5;hole n=14", 10, 12, "..o..", "..o..", "oo.o.", "..o..", "..o..");
        sees("wide 5;hole n=2", 10, 12, ".....", "..o..", "oo.oo", "..o..", "..o..");
        sees("wide 5;hole n=7|n=11|n=13|n=17", 10, 12, ".....", ".....", ".....", ".....", ".....");
        sees("wide 5;hole n=6|n=8|n=16|n=18", 10, 12, "..o..", "..o..", "oo.oo", "..o..", "..o..");
        sees("wide 5;bar n=7|n=11|n=13|n=17", 10, 12, "..o..", "..o..", "oo.oo", "..o..", "..o..");
        sees("wide 5;bar n=7;hole n=7", 10, 12, ".....", ".....", "oo.oo", "..o..", "..o..");
        sees("wide 5;hole n=12", 10, 12, "..o..", "..o..", "oo.oo", "..o..", "..o..");
    }

    private static void seesRookRound() {
        d.says(11, "nor (ROUND) its own square");
        sees("wide 2;round", 10, 0, ".o", "o.");
        sees("wide 5;round", 10, 0, ".oooo", "o....", "o....", "o....", "o....");
        sees("wide 5;round", 10, 12, "..o..", "..o..", "oo.oo", "..o..", "..o..");
        sees("wide 5;round;hole n=13", 10, 12, "..o..", "..o..", "oo..o", "..o..", "..o..");
        sees("wide 5;round;hole n=10", 10, 12, "..o..", "..o..", ".o.oo", "..o..", "..o..");
        sees("wide 5;round;hole n=11|n=14", 10, 12, "..o..", "..o..", "...o.", "..o..", "..o..");
        sees("wide 5;round;hole n=7", 10, 12, "..o..", ".....", "oo.oo", "..o..", "..o..");
        sees("wide 5;round;hole n=1", 10, 0, "..ooo", "o....", "o....", "o....", "o....");
        sees("wide 5;round;hole n=20|n=5", 10, 0, ".oooo", ".....", ".....", ".....", ".....");
    }

    private static void seesBishop() {
        d.says(11, "BISHOP: likewise aslant, the four ways.");
        sees("wide 2", 20, 0, "..", ".o");
        sees("wide 5", 20, 0, ".....", ".o...", "..o..", "...o.", "....o");
        sees("wide 5", 20, 12, "o...o", ".o.o.", ".....", ".o.o.", "o...o");
        sees("wide 5", 20, 24, "o....", ".o...", "..o..", "...o.", ".....");
        sees("wide 5", 20, 4, ".....", "...o.", "..o..", ".o...", "o....");
        sees("wide 5", 20, 5, ".o...", ".....", ".o...", "..o..", "...o.");
        sees("wide 5;hole n=18", 20, 12, "o...o", ".o.o.", ".....", ".o...", "o....");
        sees("wide 5;hole n=4", 20, 12, "o....", ".o.o.", ".....", ".o.o.", "o...o");
        sees("wide 5;bar n=18", 20, 12, "o...o", ".o.o.", ".....", ".o.o.", "o...o");
        sees("wide 5;hole n=7|n=11|n=13|n=17", 20, 12, "o...o", ".o.o.", ".....", ".o.o.", "o...o");
    }

    private static void seesBishopRound() {
        d.says(11, "as far as neither a HOLE comes, nor THE BOARD's end, nor (ROUND) its own square. BISHOP: likewise");
        sees("wide 2;round", 20, 0, "..", ".o");
        sees("wide 3;round", 20, 0, "...", ".oo", ".oo");
        sees("wide 4;round", 20, 0, "....", ".o.o", "..o.", ".o.o");
        sees("wide 5;round", 20, 0, ".....", ".o..o", "..oo.", "..oo.", ".o..o");
        sees("wide 5;round", 20, 2, ".....", ".o.o.", "o...o", "o...o", ".o.o.");
        sees("wide 5;round;hole n=6", 20, 0, ".....", "....o", "..oo.", "..oo.", ".o..o");
        sees("wide 5;round;hole n=6|n=18", 20, 0, ".....", "....o", "...o.", "..o..", ".o..o");
        sees("wide 5;round;hole n=6|n=24", 20, 0, ".....", "....o", "...o.", "..o..", ".o...");
    }

    private static void seesKing() {
        d.says(11, "KING: the squares by one step of these eight ways.");
        sees("wide 2", 30, 0, ".o", "oo");
        sees("wide 5", 30, 12, ".....", ".ooo.", ".o.o.", ".ooo.", ".....");
        sees("wide 5", 30, 0, ".o...", "oo...", ".....", ".....", ".....");
        sees("wide 5", 30, 24, ".....", ".....", ".....", "...oo", "...o.");
        sees("wide 5", 30, 14, ".....", "...oo", "...o.", "...oo", ".....");
        sees("wide 5;hole n=13|n=6", 30, 12, ".....", "..oo.", ".o...", ".ooo.", ".....");
        sees("wide 5;bar n=13|n=6", 30, 12, ".....", ".ooo.", ".o.o.", ".ooo.", ".....");
        sees("wide 2;round", 30, 0, ".o", "oo");
        sees("wide 3;round", 30, 0, ".oo", "ooo", "ooo");
        sees("wide 5;round", 30, 0, ".o..o", "oo..o", ".....", ".....", "oo..o");
        sees("wide 5;round", 30, 14, ".....", "o..oo", "o..o.", "o..oo", ".....");
    }

    private static void seesQueen() {
        d.says(11, "QUEEN: as ROOK, and as BISHOP.");
        sees("wide 2", 40, 0, ".o", "oo");
        sees("wide 5", 40, 12, "o.o.o", ".ooo.", "oo.oo", ".ooo.", "o.o.o");
        sees("wide 5", 40, 24, "o...o", ".o..o", "..o.o", "...oo", "oooo.");
        sees("wide 5;hole n=13|n=6", 40, 12, "..o.o", "..oo.", "oo...", ".ooo.", "o.o.o");
        sees("wide 5;round", 40, 0, ".oooo", "oo..o", "o.oo.", "o.oo.", "oo..o");
        sees("wide 5;round;hole n=24|n=1", 40, 0, "..ooo", "oo..o", "o.oo.", "o.oo.", "oo...");
    }

    private static void seesHorseByV() {
        d.says(11, "HORSE: as BISHOP, if v is 4 or less; else those that are 1 away along x and 2 along y, or 2 and "
            + "1.");
        for (int v = 0; v < 10; v++) {
            if (v <= 4) {
                sees("wide 5", 50 + v, 12, "o...o", ".o.o.", ".....", ".o.o.", "o...o");
            } else {
                sees("wide 5", 50 + v, 12, ".o.o.", "o...o", ".....", "o...o", ".o.o.");
            }
        }
        sees("wide 5;round", 54, 0, ".....", ".o..o", "..oo.", "..oo.", ".o..o");
        sees("wide 5;hole n=18", 54, 12, "o...o", ".o.o.", ".....", ".o...", "o....");
    }

    private static void seesHorse() {
        d.says(11, "1 away along x and 2 along y, or 2 and 1");
        sees("wide 2", 55, 0, "..", "..");
        sees("wide 3", 55, 4, "...", "...", "...");
        sees("wide 3", 55, 0, "...", "..o", ".o.");
        sees("wide 3", 55, 8, ".o.", "o..", "...");
        sees("wide 5", 59, 0, ".....", "..o..", ".o...", ".....", ".....");
        sees("wide 5", 59, 4, ".....", "..o..", "...o.", ".....", ".....");
        sees("wide 5", 59, 20, ".....", ".....", ".o...", "..o..", ".....");
        sees("wide 5", 59, 24, ".....", ".....", "...o.", "..o..", ".....");
        sees("wide 5", 59, 9, "..o..", ".....", "..o..", "...o.", ".....");
        sees("wide 5;hole n=7|n=6|n=11|n=13|n=17", 55, 12, ".o.o.", "o...o", ".....", "o...o", ".o.o.");
        sees("wide 5;hole n=1|n=9;bar n=3", 55, 12, "...o.", "o....", ".....", "o...o", ".o.o.");
    }

    private static void seesHorseRound() {
        d.says(11, "ROUND, if the last one of round, flat is round: behind each end of a row, a column it goes on");
        sees("wide 5;round", 55, 0, ".....", "..oo.", ".o..o", ".o..o", "..oo.");
        sees("wide 5;round", 55, 24, ".oo..", "o..o.", "o..o.", ".oo..", ".....");
        sees("wide 4;round", 55, 0, "....", "..o.", ".o.o", "..o.");
        sees("wide 3;round", 55, 0, "...", ".oo", ".oo");
        sees("wide 2;round", 55, 0, ".o", "o.");
        sees("wide 5;round;hole n=7|n=23", 55, 0, ".....", "...o.", ".o..o", ".o..o", "..o..");
    }

    private static void seesTold() {
        d.says(11, "TOLD: as KING, but of the eight ways those alone (0: x 1 more, 1: y 1 more, 2: x 1 less, 3: y 1 "
            + "less, 4: both 1 more, 5: x 1 less and y 1 more, 6: both 1 less, 7: x 1 more and y 1 less)");
        int[] fromMiddle = {13, 17, 11, 7, 18, 16, 6, 8};
        int[] fromFirst = {1, 5, -1, -1, 6, -1, -1, -1};
        int[] fromLast = {-1, -1, 23, 19, -1, -1, 18, -1};
        int[] roundFirst = {1, 5, 4, 20, 6, 9, 24, 21};
        int[] roundLast = {20, 4, 23, 19, 0, 3, 18, 15};
        NoneSees flat = Due.with("wide 5", 60);
        NoneSees round = Due.with("wide 5;round", 60);
        for (int way = 0; way < 8; way++) {
            for (int other = 0; other < 8; other++) {
                flat.row(0, other, other == way ? 1 : 0);
                round.row(0, other, other == way ? 1 : 0);
            }
            d.due("way " + way, flat.sees(0, 12), 1 << fromMiddle[way]);
            d.due("way " + way + " from 0", flat.sees(0, 0), fromFirst[way] < 0 ? 0 : 1 << fromFirst[way]);
            d.due("way " + way + " from 24", flat.sees(0, 24), fromLast[way] < 0 ? 0 : 1 << fromLast[way]);
            d.due("round, way " + way, round.sees(0, 12), 1 << fromMiddle[way]);
            d.due("round, way " + way + " from 0", round.sees(0, 0), 1 << roundFirst[way]);
            d.due("round, way " + way + " from 24", round.sees(0, 24), 1 << roundLast[way]);
        }
        flat.row(0, 7, 0);
        d.due("no way", flat.sees(0, 12), 0);
        for (int way = 0; way < 8; way++) {
            flat.row(0, way, 1);
        }
        d.due("all ways", flat.sees(0, 12), Due.picture(".....", ".ooo.", ".o.o.", ".ooo.", "....."));
        Due.yard(flat, "wide 5;hole n=13|n=18|n=14");
        d.due("no holes", flat.sees(0, 12), Due.picture(".....", ".ooo.", ".o...", ".oo..", "....."));
    }

    private static void seesRoundEnds() {
        d.says(11, "behind each end of a row, a column it goes on at the other end");
        for (int wide = 2; wide <= 5; wide++) {
            NoneSees round = Due.with("round;wide " + wide, 60);
            NoneSees flat = Due.with("wide " + wide, 60);
            for (int way = 1; way < 8; way++) {
                round.row(0, way, 0);
                flat.row(0, way, 0);
            }
            for (int k = 0; k < wide; k++) {
                d.due("behind a row's end", round.sees(0, k * wide + wide - 1), 1 << k * wide);
                d.due("flat: none", flat.sees(0, k * wide + wide - 1), 0);
            }
            onlyWay(round, 2);
            onlyWay(flat, 2);
            for (int k = 0; k < wide; k++) {
                d.due("ahead of a row's end", round.sees(0, k * wide), 1 << k * wide + wide - 1);
                d.due("flat: none", flat.sees(0, k * wide), 0);
            }
            onlyWay(round, 1);
            onlyWay(flat, 1);
            for (int k = 0; k < wide; k++) {
                d.due("behind a column's end", round.sees(0, wide * (wide - 1) + k), 1 << k);
                d.due("flat: none", flat.sees(0, wide * (wide - 1) + k), 0);
            }
            onlyWay(round, 3);
            onlyWay(flat, 3);
            for (int k = 0; k < wide; k++) {
                d.due("ahead of a column's end", round.sees(0, k), 1 << wide * (wide - 1) + k);
                d.due("flat: none", flat.sees(0, k), 0);
            }
        }
    }

    private static void onlyWay(NoneSees x, int way) {
        for (int other = 0; other < 8; other++) {
            x.row(0, other, other == way ? 1 : 0);
        }
    }

    private static void seesOverMen() {
        d.says(11, "Other MEN do not stand in the way.");
        NoneSees x = Due.with("wide 5", 0, 10, 20, 40, 59);
        int[] empty = {x.sees(0, 12), x.sees(1, 12), x.sees(2, 12), x.sees(3, 12), x.sees(4, 12)};
        Due.setBits(x, 0, ALL_OF_5 & ~Due.bits(12));
        for (int plan = 0; plan < 5; plan++) {
            d.due("plan " + plan, x.sees(plan, 12), empty[plan]);
        }
        Due.setAll(x, 1, 12);
        d.due("what he sees", x.at(12, 2), empty[1]);
        d.due("behind a man", x.at(10, 1), 1);
    }

    private static void clearMany() {
        d.says(12, "All MEN are taken away: how many there were.");
        NoneSees x = Due.with("wide 5", 0, 10);
        d.due("none", x.clear(), 0);
        Due.setAll(x, 1, 24);
        d.due("one", x.clear(), 1);
        Due.setBits(x, 0, ALL_OF_5);
        d.due("all squares", x.clear(), 25);
        d.due("none again", x.clear(), 0);
        d.due("told(2)", x.told(2), 0);
        d.due("told(5)", x.told(5), 0);
        d.due("every square is free", x.more(0), ALL_OF_5);
    }
}
