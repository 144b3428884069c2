/** Promises 21 to 30, each sentence that names a boundary by itself: turned, reached, rubbed, odds, books. */
public final class BoundsTurnedTest {
    private static final Due d = new Due();
    private static final int MIN = Integer.MIN_VALUE, MAX = Integer.MAX_VALUE;
    private static final int ALL_OF_5 = (1 << 25) - 1;
    private static final int[] NO_PLANS = {-1, 2, 6, MIN, MAX};

    public static void main(String[] args) {
        turnedNone();
        turnedHow();
        turnedEmptyAndFull();
        turnedOfWhateverPlans();
        alikeBounds();
        aimNone();
        aimBad();
        aimFull();
        aimAway();
        aimFirstNamed();
        reachFive();
        reachNotAsMany();
        reachByNone();
        reachNotRound();
        reachNotBarred();
        reachThroughMen();
        reachFewest();
        reachFirstNamed();
        seeNone();
        seeBad();
        seeFull();
        seeAway();
        seeFirstNamed();
        rubbedNone();
        rubbedNothingTold();
        rubbedBounds();
        rubbedMayBeSet();
        oddsNo();
        oddsNowhere();
        oddsLowest();
        meanNo();
        meanLowest();
        bookNone();
        bookFull();
        bookAway();
        lookedNone();
        lookedFirst();
        d.finish();
    }

    private static NoneSees men(String text, int... squares) {
        NoneSees x = Due.with(text, 0, 10);
        Due.setAll(x, 0, squares);
        return x;
    }

    // ---- 21, 22

    private static void turnedNone() {
        d.says(21, "TURNED: 1, 0. NONE: how.");
        int[] none = {-1, 8, 9, -4, MIN, MAX};
        NoneSees x = men("wide 3", 0);
        for (int how : none) {
            d.due("turned(" + how + ")", x.turned(how), -1);
        }
        d.due("turned(0)", x.turned(0), 1);
        d.due("turned(6)", x.turned(6), 0);
        d.due("turned(7)", x.turned(7), 1);
    }

    private static void isTurned(NoneSees x, String same) {
        for (int how = 0; how < 8; how++) {
            d.due("turned(" + how + ")", x.turned(how), same.charAt(how) - '0');
        }
    }

    private static void turnedHow() {
        d.says(21, "TURNED by how (0 .. 7): each MAN is moved: by 4 .. 7 first x becomes WIDE less 1 less x; then, "
            + "how modulo 4 times, x becomes WIDE less 1 less y, and y what x was");
        for (int wide = 2; wide <= 5; wide++) {
            String text = "wide " + wide;
            isTurned(men(text, 0), "10000001");
            isTurned(men(text, wide - 1), "10000100");
            isTurned(men(text, wide * (wide - 1)), "10000100");
            isTurned(men(text, wide * wide - 1), "10000001");
        }
        isTurned(men("wide 3", 1), "10001000");
        isTurned(men("wide 3", 3), "10000010");
        isTurned(men("wide 5", 1, 9, 23, 15), "11110000");
        isTurned(men("wide 5", 1, 23), "10100000");
        isTurned(men("wide 5", 1), "10000000");
        isTurned(men("wide 2", 0, 1), "10001000");
        isTurned(men("wide 2", 0, 2), "10000010");
        isTurned(men("wide 2", 0, 3), "10100101");
    }

    private static void turnedEmptyAndFull() {
        d.says(21, "whether MEN are on just the same squares then");
        for (int wide = 2; wide <= 5; wide++) {
            NoneSees x = men("wide " + wide);
            isTurned(x, "11111111");
            Due.setBits(x, 0, (1 << wide * wide) - 1);
            isTurned(x, "11111111");
            x.take(wide * wide - 1);
            isTurned(x, "10000001");
        }
    }

    private static void turnedOfWhateverPlans() {
        d.says(21, "(of whatever PLANS)");
        NoneSees x = men("wide 5", 0);
        d.due("one alone", x.turned(2), 0);
        Due.setAll(x, 1, 24);
        isTurned(x, "10100101");
        Due.setAll(x, 1, 4, 20);
        isTurned(x, "11111111");
    }

    private static void alikeBounds() {
        d.says(22, "ALIKE: by how many of the eight it is so.");
        d.due("nobody", men("wide 5").alike(), 8);
        d.due("without a yard", new NoneSees().alike(), 8);
        d.due("by itself alone", men("wide 5", 1).alike(), 1);
        d.due("by two", men("wide 5", 0).alike(), 2);
        d.due("by four", men("wide 5", 0, 24).alike(), 4);
        d.due("by four turns", men("wide 5", 1, 9, 23, 15).alike(), 4);
        d.due("by all", men("wide 5", 0, 4, 20, 24).alike(), 8);
        NoneSees x = men("wide 5");
        Due.setBits(x, 0, ALL_OF_5);
        d.due("men everywhere", x.alike(), 8);
        x.take(0);
        d.due("all but one", x.alike(), 2);
    }

    // ---- 23

    private static void aimNone() {
        d.says(23, "NONE");
        for (int wide = 2; wide <= 5; wide++) {
            NoneSees x = men("wide " + wide + ";hole n=0;bar n=1");
            int[] none = {-2, wide * wide, wide * wide + 1, 32, MIN, MAX};
            for (int square : none) {
                d.due("wide " + wide + " aim(" + square + ")", x.aim(square), -1);
            }
            d.due("the first, a hole", x.aim(0), 1);
            d.due("a barred one", x.aim(1), 2);
            d.due("the last", x.aim(wide * wide - 1), 3);
        }
    }

    private static void aimBad() {
        d.says(23, "BAD: it is there already");
        NoneSees x = men("wide 3");
        for (int k = 0; k < 5; k++) {
            d.due("aim(" + (8 - k) + ")", x.aim(8 - k), k + 1);
            for (int square = 8 - k; square <= 8; square++) {
                d.due("again aim(" + square + ")", x.aim(square), -2);
            }
        }
        d.due("count(2)", x.count(2), 5);
        x.aim(-1);
        d.due("no more there", x.aim(8), 1);
    }

    private static void aimFull() {
        d.says(23, "FULL: 5.");
        NoneSees x = men("wide 3");
        for (int square = 0; square < 4; square++) {
            x.aim(square);
        }
        d.due("the fifth", x.aim(4), 5);
        for (int square = 5; square < 9; square++) {
            d.due("a sixth", x.aim(square), -4);
        }
        d.due("count(2)", x.count(2), 5);
        d.says(23, "squares (5 at most)");
        Due.setAll(x, 0, 0, 1, 2, 3, 4);
        d.due("the five are the first five", x.reach(), 0);
    }

    private static void aimAway() {
        d.says(23, "(-1: none then, 0)");
        NoneSees x = men("wide 3");
        d.due("none yet", x.aim(-1), 0);
        x.aim(3);
        d.due("one", x.aim(-1), 0);
        d.due("count(2)", x.count(2), 0);
        for (int square = 0; square < 5; square++) {
            x.aim(square);
        }
        d.due("full", x.aim(-1), 0);
        d.due("count(2)", x.count(2), 0);
        d.due("anew", x.aim(0), 1);
    }

    private static void aimFirstNamed() {
        d.says(23, "NONE; BAD: it is there already; FULL: 5.");
        NoneSees x = men("wide 3");
        for (int square = 0; square < 5; square++) {
            x.aim(square);
        }
        d.due("no square, and full", x.aim(9), -1);
        d.due("no square below, and full", x.aim(-2), -1);
        for (int square = 0; square < 5; square++) {
            d.due("there already, and full", x.aim(square), -2);
        }
        d.due("full", x.aim(8), -4);
        d.due("away, though full", x.aim(-1), 0);
    }

    // ---- 24

    private static void aims(NoneSees x, int... squares) {
        x.aim(-1);
        for (int square : squares) {
            x.aim(square);
        }
    }

    private static void reachFive() {
        d.says(24, "MEN (5 at most, else -9)");
        NoneSees x = men("wide 5", 0, 1, 2, 3, 4);
        aims(x, 20, 21, 22, 23, 24);
        d.due("five", x.reach(), 20);
        Due.setAll(x, 1, 12);
        d.due("six", x.reach(), -9);
        Due.setBits(x, 0, ALL_OF_5 & ~x.told(5));
        d.due("25", x.reach(), -9);
        x.clear();
        d.due("none, and five squares", x.reach(), -5);
    }

    private static void reachNotAsMany() {
        d.says(24, "or there are not as many)");
        NoneSees x = men("wide 5");
        d.due("none and none", x.reach(), 0);
        aims(x, 0);
        d.due("none, one", x.reach(), -5);
        Due.setAll(x, 0, 0);
        d.due("one and one", x.reach(), 0);
        aims(x);
        d.due("one, none", x.reach(), -5);
        aims(x, 0, 1);
        d.due("one, two", x.reach(), -5);
        Due.setAll(x, 0, 1, 2, 3);
        aims(x, 0, 1, 2, 3, 4);
        d.due("four, five", x.reach(), -5);
        Due.setAll(x, 0, 4);
        d.due("five and five", x.reach(), 0);
        aims(x, 0, 1, 2, 3);
        d.due("five, four", x.reach(), -5);
    }

    private static void reachByNone() {
        d.says(24, "(-5: by none");
        NoneSees x = men("wide 5;bar n=1|n=5;hole n=23|n=19", 0);
        aims(x, 12);
        d.due("shut in", x.reach(), -5);
        aims(x, 0);
        d.due("where it is", x.reach(), 0);
        x.clear();
        Due.setAll(x, 0, 12);
        aims(x, 24);
        d.due("shut out by holes", x.reach(), -5);
        aims(x, 1);
        d.due("onto a barred one", x.reach(), -5);
        aims(x, 23);
        d.due("onto a hole", x.reach(), -5);
        aims(x, 7, 24);
        Due.setAll(x, 0, 2);
        d.due("one of two by none", x.reach(), -5);
        aims(x, 7, 2);
        d.due("both", x.reach(), 1);
    }

    private static void reachNotRound() {
        d.says(24, "to a square 1 away along x or y (not ROUND)");
        NoneSees x = men("wide 5;round", 0);
        int[] squares = {0, 1, 4, 5, 6, 20, 24, 9};
        int[] steps = {0, 1, 4, 1, 2, 4, 8, 5};
        for (int i = 0; i < squares.length; i++) {
            aims(x, squares[i]);
            d.due("from 0 to " + squares[i], x.reach(), steps[i]);
        }
        x = men("wide 2;round", 3);
        aims(x, 0);
        d.due("of 2", x.reach(), 2);
        x = men("wide 5", 4);
        aims(x, 5);
        d.due("from a row's end to the next row's first", x.reach(), 5);
        aims(x, 0);
        d.due("along the row", x.reach(), 4);
        x = men("wide 5", 20);
        aims(x, 19);
        d.due("from a row's first to the last of that above", x.reach(), 5);
    }

    private static void reachNotBarred() {
        d.says(24, "that is not BARRED");
        NoneSees x = men("wide 5;bar y=1&x<4;hole y=3&x>0", 0);
        aims(x, 24);
        d.due("the longest way that there is", x.reach(), 16);
        aims(x, 10);
        d.due("half of it", x.reach(), 10);
        aims(x, 5);
        d.due("onto a barred one", x.reach(), -5);
        x = men("wide 5", 0);
        aims(x, 24);
        d.due("none is barred", x.reach(), 8);
    }

    private static void reachThroughMen() {
        d.says(24, "(other MEN not being in its way)");
        NoneSees x = men("wide 5;bar y>0", 0, 1, 2);
        aims(x, 2, 3, 4);
        d.due("in a row", x.reach(), 6);
        aims(x, 1, 2, 4);
        d.due("past two others", x.reach(), 4);
        x = men("wide 2;bar y>0", 0, 1);
        aims(x, 1, 0);
        d.due("each stays", x.reach(), 0);
    }

    private static void reachFewest() {
        d.says(24, "the fewest steps, together, by which MEN");
        NoneSees x = men("wide 5", 1, 4);
        aims(x, 2, 0);
        d.due("not the nearest first", x.reach(), 3);
        aims(x, 0, 2);
        d.due("told the other way round", x.reach(), 3);
        x = men("wide 5", 0, 24);
        aims(x, 24, 0);
        d.due("none has to go", x.reach(), 0);
        d.says(24, "just the squares of THE AIM, one on each");
        x = men("wide 5", 12, 13);
        aims(x, 12, 24);
        d.due("not both on one", x.reach(), 3);
        x = men("wide 5", 0, 1, 2, 3, 4);
        aims(x, 4, 9, 14, 19, 24);
        d.due("five round a corner", x.reach(), 20);
    }

    private static void reachFirstNamed() {
        d.says(24, "REACH; -9; -5.");
        NoneSees x = men("wide 5;bar n=24", 0, 1, 2, 3, 4, 5);
        d.due("six, none", x.reach(), -9);
        aims(x, 24);
        d.due("six, one that none comes to", x.reach(), -9);
        x.take(0);
        d.due("five, one", x.reach(), -5);
    }

    // ---- 25, 26

    private static void seeNone() {
        d.says(25, "NONE");
        for (int wide = 2; wide <= 5; wide++) {
            NoneSees x = men("wide " + wide + ";hole n=0");
            int[] none = {-2, wide * wide, wide * wide + 1, MIN, MAX};
            for (int square : none) {
                d.due("wide " + wide + " see(" + square + ", 0)", x.see(square, 0), -1);
            }
            d.due("the first, a hole", x.see(0, 0), 1);
            d.due("the last", x.see(wide * wide - 1, 0), 2);
        }
    }

    private static void seeBad() {
        d.says(25, "BAD: n (0 .. 25)");
        int[] bad = {-1, 26, 27, MIN, MAX};
        NoneSees x = men("wide 2");
        for (int n : bad) {
            d.due("see(0, " + n + ")", x.see(0, n), -2);
        }
        d.due("see(0, 0)", x.see(0, 0), 1);
        d.due("see(0, 25)", x.see(0, 25), 2);
    }

    private static void seeFull() {
        d.says(25, "FULL: 8.");
        NoneSees x = men("wide 2");
        for (int k = 1; k <= 8; k++) {
            d.due("see(3, 0)", x.see(3, 0), k);
        }
        for (int square = 0; square < 4; square++) {
            d.due("a ninth", x.see(square, 1), -4);
        }
        d.due("count(3)", x.count(3), 8);
        d.says(25, "how many MEN SEE it (8 at most)");
        d.due("all eight hold", x.rubbed(0), 15);
        x.see(-1, 0);
        for (int k = 1; k <= 7; k++) {
            x.see(3, 0);
        }
        d.due("the eighth", x.see(3, 1), 8);
        d.due("counts as well", x.rubbed(0), 0);
    }

    private static void seeAway() {
        d.says(25, "(square -1: none then, 0, whatever the other is)");
        int[] others = {0, 25, -1, 26, MIN, MAX};
        NoneSees x = men("wide 2");
        for (int n : others) {
            x.see(0, 25);
            d.due("see(-1, " + n + ")", x.see(-1, n), 0);
            d.due("count(3)", x.count(3), 0);
            d.due("nothing is told", x.rubbed(0), 15);
        }
        d.due("none yet", x.see(-1, 0), 0);
    }

    private static void seeFirstNamed() {
        d.says(25, "NONE; BAD: n (0 .. 25); FULL: 8.");
        NoneSees x = men("wide 2");
        d.due("square, n", x.see(4, 26), -1);
        d.due("square below, n", x.see(-2, -1), -1);
        for (int k = 1; k <= 8; k++) {
            x.see(0, k);
        }
        d.due("square, n, full", x.see(4, 26), -1);
        d.due("square, full", x.see(-2, 0), -1);
        d.due("n, full", x.see(0, 26), -2);
        d.due("n below, full", x.see(3, -1), -2);
        d.due("full", x.see(3, 25), -4);
        d.due("away, though full", x.see(-1, 26), 0);
    }

    private static void rubbedNone() {
        d.says(26, "NONE.");
        NoneSees x = men("wide 2");
        for (int plan : NO_PLANS) {
            d.due("rubbed(" + plan + ")", x.rubbed(plan), -1);
        }
        d.due("rubbed(0)", x.rubbed(0), 15);
        d.due("rubbed(1)", x.rubbed(1), 15);
    }

    private static void rubbedNothingTold() {
        d.says(26, "by whom all of that is so");
        NoneSees x = men("wide 5");
        d.due("nothing is told", x.rubbed(1), ALL_OF_5);
        x.see(12, 0);
        d.due("none of those who see it", x.rubbed(1), Due.picture("oo.oo", "oo.oo", "..o..", "oo.oo", "oo.oo"));
        x.see(-1, 0);
        x.see(12, 1);
        d.due("those who see it", x.rubbed(1), Due.picture("..o..", "..o..", "oo.oo", "..o..", "..o.."));
        x.see(0, 1);
        d.due("two of those", x.rubbed(1), Due.bits(2, 10));
        x.see(1, 1);
        d.due("one of those", x.rubbed(1), Due.bits(2));
        x.see(24, 1);
        d.due("none of those", x.rubbed(1), 0);
        d.due("who sees none", x.rubbed(0), 0);
        x.see(-1, 0);
        x.see(12, 1);
        x.see(12, 0);
        d.due("both of one square can not be", x.rubbed(1), 0);
    }

    private static void rubbedBounds() {
        d.says(26, "a square, and how many MEN SEE it");
        NoneSees x = Due.with("wide 5", 0, 40);
        int seers = x.sees(1, 12);
        Due.setBits(x, 1, seers & ~Due.bits(24));
        x.see(12, 16);
        d.due("one is missing", x.rubbed(1), Due.bits(24));
        d.due("one who sees none does not help", x.rubbed(0), 0);
        x.see(-1, 0);
        x.see(12, 15);
        d.due("none is missing", x.rubbed(0), ALL_OF_5 & ~x.told(5));
        d.due("nor may one more see it", x.rubbed(1), ALL_OF_5 & ~x.told(5) & ~Due.bits(24));
        x.see(-1, 0);
        x.see(12, 17);
        d.due("two are missing", x.rubbed(1), 0);
        x.see(-1, 0);
        x.see(12, 14);
        d.due("one too many", x.rubbed(0) | x.rubbed(1), 0);
        x.see(-1, 0);
        x.see(12, 25);
        d.due("25 never are", x.rubbed(1), 0);
    }

    private static void rubbedMayBeSet() {
        d.says(26, "where one more MAN of it may be SET");
        NoneSees x = Due.with("wide 2;bar n=1;hole n=3", 0, 10);
        d.due("neither barred nor a hole", x.rubbed(0), Due.bits(0, 2));
        Due.setAll(x, 1, 0);
        d.due("nor where a man is; it needs not fit", x.rubbed(1), Due.bits(2));
        Due.setAll(x, 1, 2);
        d.due("nowhere", x.rubbed(0) | x.rubbed(1), 0);
        d.due("nowhere", Due.with("wide 5;bar n<99", 40).rubbed(0), 0);
    }

    // ---- 27, 28

    private static void oddsNo() {
        d.says(27, "ODDS; part 0 above, 1 below the line. NO.");
        int[] none = {-1, 2, 3, MIN, MAX};
        NoneSees x = men("wide 2");
        for (int part : none) {
            d.due("odds(0, " + part + ")", x.odds(0, part), NoneSees.NO);
        }
        for (int plan : NO_PLANS) {
            d.due("odds(" + plan + ", 0)", x.odds(plan, 0), NoneSees.NO);
            d.due("odds(" + plan + ", 1)", x.odds(plan, 1), NoneSees.NO);
        }
        d.due("odds(1, 0)", x.odds(1, 0), 1);
        d.due("odds(1, 1)", x.odds(1, 1), 1);
    }

    private static void isOdds(NoneSees x, int plan, long above, long below) {
        d.due("above", x.odds(plan, 0), above);
        d.due("below", x.odds(plan, 1), below);
    }

    private static void oddsNowhere() {
        d.says(27, "(NO: nowhere)");
        NoneSees x = men("wide 5");
        Due.setBits(x, 0, ALL_OF_5 & ~Due.bits(24));
        isOdds(x, 0, 1, 1);
        isOdds(x, 1, 0, 1);
        Due.setAll(x, 0, 24);
        isOdds(x, 0, NoneSees.NO, NoneSees.NO);
        isOdds(x, 1, NoneSees.NO, NoneSees.NO);
        isOdds(men("wide 5;bar n<99"), 0, NoneSees.NO, NoneSees.NO);
        isOdds(men("wide 5;hole n<99"), 1, NoneSees.NO, NoneSees.NO);
        isOdds(men("wide 5;hole n<24"), 1, 1, 1);
    }

    private static void oddsLowest() {
        d.says(27, "how likely it FITS: a fraction in lowest terms");
        NoneSees x = men("wide 5");
        isOdds(x, 0, 1, 1);
        Due.setAll(x, 1, 0);
        isOdds(x, 0, 2, 3);
        Due.setAll(x, 0, 6);
        isOdds(x, 0, 15, 23);
        isOdds(x, 1, 9, 23);
        Due.setAll(x, 0, 12);
        isOdds(x, 0, 7, 11);
        isOdds(x, 1, 2, 11);
        Due.setAll(x, 0, 18);
        isOdds(x, 1, 1, 21);
        Due.setAll(x, 0, 24);
        isOdds(x, 1, 0, 1);
        isOdds(x, 0, 3, 5);
    }

    private static void meanNo() {
        d.says(28, "of all MEN that there are: a fraction in lowest terms (NO: none)");
        int[] none = {-1, 2, MIN, MAX};
        NoneSees x = men("wide 5");
        d.due("nobody, above", x.mean(0), NoneSees.NO);
        d.due("nobody, below", x.mean(1), NoneSees.NO);
        Due.setAll(x, 0, 24);
        isMean(x, 0, 1);
        x.take(24);
        d.due("nobody again", x.mean(0), NoneSees.NO);
        d.says(28, "MEAN; part likewise. NO.");
        Due.setAll(x, 1, 0);
        for (int part : none) {
            d.due("mean(" + part + ")", x.mean(part), NoneSees.NO);
        }
        isMean(x, 8, 1);
    }

    private static void isMean(NoneSees x, long above, long below) {
        d.due("above", x.mean(0), above);
        d.due("below", x.mean(1), below);
    }

    private static void meanLowest() {
        d.says(28, "MEAN: how many squares a MAN SEES, of all MEN that there are: a fraction in lowest terms");
        NoneSees x = Due.with("wide 5", 0, 10, 40);
        Due.setBits(x, 2, ALL_OF_5);
        isMean(x, 64, 5);
        x.clear();
        Due.setBits(x, 0, ALL_OF_5);
        isMean(x, 0, 1);
        x.take(24);
        Due.setAll(x, 1, 24);
        isMean(x, 8, 25);
        x.clear();
        Due.setAll(x, 2, 12);
        isMean(x, 16, 1);
        Due.setAll(x, 0, 0);
        isMean(x, 8, 1);
        Due.setAll(x, 0, 1);
        isMean(x, 16, 3);
    }

    // ---- 29, 30

    private static void bookNone() {
        d.says(29, "NONE");
        for (int wide = 2; wide <= 5; wide++) {
            NoneSees x = men("wide " + wide + ";hole n=0");
            int[] none = {-2, wide * wide, wide * wide + 1, MIN, MAX};
            for (int square : none) {
                d.due("wide " + wide + " book(" + square + ")", x.book(square), -1);
            }
            d.due("the first, a hole", x.book(0), 1);
            d.due("the last", x.book(wide * wide - 1), 2);
            d.due("the same again", x.book(0), 3);
        }
    }

    private static void bookFull() {
        d.says(29, "FULL: 12.");
        NoneSees x = men("wide 5");
        for (int k = 1; k <= 12; k++) {
            d.due("square " + k, x.book(k), k);
        }
        d.due("a thirteenth", x.book(13), -4);
        d.due("again", x.book(0), -4);
        d.due("count(4)", x.count(4), 12);
        d.says(29, "squares (12 at most)");
        Due.setAll(x, 0, 1, 2, 3, 4, 5, 6, 7, 8, 9, 10, 11);
        d.due("the twelfth is there", x.looked(), 11);
        Due.setAll(x, 0, 12);
        d.due("no thirteenth is", x.looked(), -5);
        d.says(29, "NONE; FULL: 12.");
        d.due("no square, and full", x.book(25), -1);
        d.due("no square below, and full", x.book(-2), -1);
        d.due("away, though full", x.book(-1), 0);
    }

    private static void bookAway() {
        d.says(29, "(-1: it is empty then, 0)");
        NoneSees x = men("wide 2");
        d.due("empty already", x.book(-1), 0);
        x.book(3);
        d.due("one", x.book(-1), 0);
        d.due("count(4)", x.count(4), 0);
        d.due("looked()", x.looked(), -5);
        d.due("anew", x.book(2), 1);
        d.due("looked()", x.looked(), 0);
    }

    private static void lookedNone() {
        d.says(30, "told by its place in the BOOK, from 0 (-5: none)");
        NoneSees x = men("wide 5", 0, 24);
        d.due("an empty book", x.looked(), -5);
        x.book(0);
        d.due("it has a man", x.looked(), -5);
        x.book(24);
        x.book(0);
        d.due("all have one", x.looked(), -5);
        x.book(12);
        d.due("the last has none", x.looked(), 3);
        x.clear();
        d.due("the first has none", x.looked(), 0);
    }

    private static void lookedFirst() {
        d.says(30, "LOOKED at: the first that has no MAN");
        NoneSees x = men("wide 5;hole n=3", 0, 1, 2);
        for (int k = 0; k < 12; k++) {
            x.book(11 - k);
        }
        d.due("not the least square", x.looked(), 0);
        Due.setAll(x, 0, 11, 10, 9, 8, 7, 6, 5, 4);
        d.due("a hole has none", x.looked(), 8);
        x.take(4);
        d.due("the place before", x.looked(), 7);
        x.take(0);
        d.due("still", x.looked(), 7);
        d.says(30, "LOOKED at; -5.");
        x.book(-1);
        d.due("empty", x.looked(), -5);
    }
}
