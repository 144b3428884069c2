/** Promises 13 to 20, each sentence that names a boundary by itself: who sees most, ways, the most, the game. */
public final class BoundsWaysTest {
    private static final Due d = new Due();
    private static final int MIN = Integer.MIN_VALUE, MAX = Integer.MAX_VALUE;
    private static final int ALL_OF_5 = (1 << 25) - 1;
    private static final int[] NO_PLANS = {-1, 1, 6, MIN, MAX};

    public static void main(String[] args) {
        worstAtPeace();
        worstOnce();
        worstLeast();
        worstBothWays();
        worstAtTheEnds();
        waysNone();
        waysNoWay();
        waysMany();
        waysEmptyBoard();
        waysFirst();
        waysOneSided();
        afterNone();
        afterNotOneInEach();
        afterNoneBehind();
        afterNext();
        afterFirstNamed();
        afterOfWhateverPlan();
        mostNone();
        mostBounds();
        mostEmptyBoard();
        mostAtTheEnds();
        holdNone();
        holdOneToFour();
        holdNoSoMany();
        holdNoHole();
        holdLeast();
        holdAtTheEnds();
        moreNone();
        moreBounds();
        rightNone();
        rightNoughtToFour();
        rightLeast();
        rightOfTwoWhoSeeMany();
        rightWithoutWhoIsLeast();
        rightAtTheEnds();
        gameNone();
        gameNine();
        gameLost();
        gameFits();
        gameAtTheEnds();
        gameAnew();
        d.finish();
    }

    /** An object with a TOLD, whose ways are these alone. */
    private static NoneSees told(String text, int... ways) {
        NoneSees x = Due.with(text, 60, 0);
        for (int way = 0; way < 8; way++) {
            x.row(0, way, 0);
        }
        for (int way : ways) {
            x.row(0, way, 1);
        }
        return x;
    }

    // ---- 13

    private static void worstAtPeace() {
        d.says(13, "-5: AT PEACE");
        NoneSees x = Due.with("wide 5", 0, 10);
        d.due("nobody", x.worst(), -5);
        Due.setAll(x, 1, 24);
        d.due("one man", x.worst(), -5);
        Due.setAll(x, 1, 0);
        d.due("two who see neither", x.worst(), -5);
        x.take(0);
        Due.setAll(x, 0, 23);
        d.due("one sees the other", x.worst(), 23);
        x.take(24);
        Due.setBits(x, 0, ALL_OF_5 & ~Due.bits(23));
        d.due("all squares, none sees", x.worst(), -5);
        d.says(13, "WORST; -5.");
        x.take(0);
        Due.setAll(x, 1, 0);
        d.due("one of them sees", x.worst(), 0);
    }

    private static void worstOnce() {
        d.says(13, "(each counted once");
        NoneSees x = Due.with("wide 5", 0, 10, 30);
        // the rooks see each other, so each has one other; the king has two who see nobody
        Due.setAll(x, 1, 0, 1);
        Due.setAll(x, 2, 18);
        Due.setAll(x, 0, 17);
        d.due("each has one: the least", x.worst(), 0);
        Due.setAll(x, 0, 19);
        d.due("two are more than one by both", x.worst(), 18);
    }

    private static void worstLeast() {
        d.says(13, "of several the least");
        NoneSees x = Due.with("wide 5", 0, 10);
        Due.setAll(x, 1, 20, 24);
        d.due("two", x.worst(), 20);
        Due.setAll(x, 1, 4);
        d.due("who has two", x.worst(), 24);
        Due.setAll(x, 1, 0);
        d.due("all have two", x.worst(), 0);
        Due.setAll(x, 0, 3);
        d.due("two have three", x.worst(), 0);
        x.take(0);
        d.due("two have two", x.worst(), 4);
    }

    private static void worstBothWays() {
        d.says(13, "by whom most others are SEEN, or who SEE it");
        NoneSees x = Due.with("wide 5", 0, 10);
        Due.setAll(x, 0, 12);
        Due.setAll(x, 1, 2, 10);
        d.due("who is seen by two, and sees none", x.worst(), 12);
        x.clear();
        Due.setAll(x, 1, 12);
        Due.setAll(x, 0, 2, 10);
        d.due("who sees two, and is seen by none", x.worst(), 12);
        x.clear();
        Due.setAll(x, 1, 24);
        Due.setAll(x, 0, 23);
        d.due("the least of both, though he sees none", x.worst(), 23);
    }

    private static void worstAtTheEnds() {
        d.says(13, "the square of the MAN by whom most others are SEEN, or who SEE it");
        NoneSees x = Due.with("wide 5", 0, 10);
        Due.setAll(x, 1, 0, 24);
        Due.setAll(x, 0, 4);
        d.due("seen from the first and from the last", x.worst(), 4);
        x.take(4);
        Due.setAll(x, 0, 20);
        d.due("seen from the first and from the last", x.worst(), 20);
        Due.setAll(x, 0, 1);
        d.due("the first sees two as well", x.worst(), 0);
        x.take(1);
        Due.setAll(x, 0, 23);
        d.due("the last sees two as well", x.worst(), 20);
        x.take(20);
        Due.setAll(x, 0, 22);
        d.due("the last alone sees two", x.worst(), 24);
    }

    // ---- 14

    private static void waysNone() {
        d.says(14, "NONE: plan, row (0 .. WIDE less 1).");
        for (int wide = 2; wide <= 5; wide++) {
            NoneSees x = Due.with("wide " + wide, 0);
            int[] none = {-2, wide, wide + 1, MIN, MAX};
            for (int row : none) {
                d.due("wide " + wide + " ways(0, " + row + ")", x.ways(0, row), -1);
            }
            for (int plan : NO_PLANS) {
                d.due("ways(" + plan + ", -1)", x.ways(plan, -1), -1);
                d.due("ways(" + plan + ", 0)", x.ways(plan, 0), -1);
                d.due("ways(" + plan + ", " + wide + ")", x.ways(plan, wide), -1);
            }
            d.due("row -1", x.ways(0, -1), (int) Math.pow(wide, wide));
            d.due("row 0", x.ways(0, 0), 0);
            d.due("the last row", x.ways(0, wide - 1), 0);
        }
    }

    private static void waysNoWay() {
        d.says(14, "row -1 how many, else x of that row in the first (-5)");
        String[] none = {"wide 3", "wide 4;bar y=0", "wide 4;bar y=3", "wide 2;bar n<99", "wide 5;hole y=2"};
        for (String text : none) {
            NoneSees x = Due.with(text, 40);
            d.due(text + " how many", x.ways(0, -1), 0);
            for (int row = 0; row < x.told(0); row++) {
                d.due(text + " row " + row, x.ways(0, row), -5);
            }
        }
        NoneSees x = Due.with("wide 2;bar n=0|n=3", 0);
        d.due("one way", x.ways(0, -1), 1);
        d.due("row 0", x.ways(0, 0), 1);
        d.due("row 1", x.ways(0, 1), 0);
    }

    private static void waysMany() {
        d.says(14, "in how many ways there can be one MAN of it in each row (y), all SET on an empty BOARD, AT PEACE");
        d.due("all of 5", Due.with("wide 5", 0).ways(0, -1), 3125);
        d.due("rooks of 5", Due.with("wide 5", 10).ways(0, -1), 120);
        d.due("queens of 5", Due.with("wide 5", 40).ways(0, -1), 10);
        d.due("queens of 2", Due.with("wide 2", 40).ways(0, -1), 0);
        d.due("rooks of 2", Due.with("wide 2", 10).ways(0, -1), 2);
        d.due("one square is barred", Due.with("wide 5;bar n=24", 0).ways(0, -1), 2500);
        d.due("a diagonal alone", Due.with("wide 5;bar d>0", 10).ways(0, -1), 1);
        NoneSees x = Due.with("wide 2", 60);
        for (int way = 0; way < 8; way++) {
            x.row(0, way, way == 3 ? 1 : 0);
        }
        d.due("the lower one sees the upper one, not he him", x.ways(0, -1), 2);
        d.due("aslant, then", x.ways(0, 1), 1);
    }

    private static void waysEmptyBoard() {
        d.says(14, "all SET on an empty BOARD");
        NoneSees x = Due.with("wide 5", 40, 0);
        Due.setBits(x, 1, ALL_OF_5);
        d.due("men everywhere", x.ways(0, -1), 10);
        d.due("row 0", x.ways(0, 0), 0);
        d.due("row 4", x.ways(0, 4), 3);
    }

    private static void waysFirst() {
        d.says(14, "the x of row k in the first one as a row (y 0 first; -5: there is none)");
        NoneSees x = Due.with("wide 5", 40);
        int[] first = {0, 2, 4, 1, 3};
        for (int row = 0; row < 5; row++) {
            d.due("row " + row, x.ways(0, row), first[row]);
        }
        x = Due.with("wide 4", 40);
        int[] four = {1, 3, 0, 2};
        for (int row = 0; row < 4; row++) {
            d.due("row " + row, x.ways(0, row), four[row]);
        }
        x = Due.with("wide 5;bar d<4", 0);
        d.due("none in a row of none", x.ways(0, 0), -5);
        x = Due.with("wide 5;bar s<8&x<4", 0);
        for (int row = 0; row < 5; row++) {
            d.due("the last x alone, row " + row, x.ways(0, row), 4);
        }
    }

    private static void waysOneSided() {
        d.says(14, "AT PEACE");
        for (int way = 0; way < 8; way++) {
            NoneSees x = told("wide 2", way);
            boolean across = way == 1 || way == 3;
            d.due("way " + way + ", how many", x.ways(0, -1), way == 0 || way == 2 ? 4 : across ? 2 : 3);
            d.due("way " + way + ", row 0", x.ways(0, 0), 0);
            d.due("way " + way + ", row 1", x.ways(0, 1), across ? 1 : 0);
        }
    }

    // ---- 15

    private static void afterNone() {
        d.says(15, "NONE: plan, row.");
        for (int wide = 2; wide <= 5; wide++) {
            NoneSees x = Due.with("wide " + wide, 0);
            for (int y = 0; y < wide; y++) {
                Due.setAll(x, 0, y * wide);
            }
            int[] none = {-1, -2, wide, wide + 1, MIN, MAX};
            for (int row : none) {
                d.due("wide " + wide + " after(0, " + row + ")", x.after(0, row), -1);
            }
            for (int plan : NO_PLANS) {
                d.due("after(" + plan + ", 0)", x.after(plan, 0), -1);
            }
            d.due("row 0", x.after(0, 0), 0);
            d.due("the last row", x.after(0, wide - 1), 1);
        }
    }

    private static void afterNotOneInEach() {
        d.says(15, "(one MAN in each row, of whatever PLAN; else -9)");
        NoneSees x = Due.with("wide 3", 0, 30);
        d.due("nobody", x.after(0, 0), -9);
        Due.setAll(x, 0, 0, 3);
        d.due("the last row has none", x.after(0, 0), -9);
        Due.setAll(x, 0, 8);
        d.due("one in each", x.after(0, 2), 0);
        Due.setAll(x, 1, 7);
        d.due("two in the last row", x.after(0, 2), -9);
        x.take(0);
        d.due("as many as rows, but not one in each", x.after(0, 0), -9);
        Due.setAll(x, 0, 1);
        x.take(7);
        d.due("one in each again", x.after(0, 2), 0);
        Due.setAll(x, 0, 2);
        d.due("two in the first row", x.after(0, 0), -9);
        x.take(2);
        Due.setAll(x, 0, 4, 5);
        d.due("three in a row", x.after(0, 0), -9);
    }

    private static void afterNoneBehind() {
        d.says(15, "its x of row k (-5: none)");
        NoneSees x = Due.with("wide 4", 0, 40);
        Due.setAll(x, 0, 3, 7, 11, 15);
        for (int row = 0; row < 4; row++) {
            d.due("behind the last of all, row " + row, x.after(0, row), -5);
            d.due("no queens' way behind it, row " + row, x.after(1, row), -5);
        }
        x.clear();
        Due.setAll(x, 1, 2, 4, 11, 13);
        d.due("the last queens' way", x.after(1, 0), -5);
        x.take(13);
        Due.setAll(x, 0, 12);
        d.due("just ahead of it", x.after(1, 3), 1);
        x = Due.with("wide 3", 40);
        Due.setAll(x, 0, 0, 3, 6);
        d.due("no way at all", x.after(0, 0), -5);
        x = Due.with("wide 2;bar n=1|n=2", 0);
        Due.setAll(x, 0, 0, 3);
        d.due("the only way stands", x.after(0, 1), -5);
    }

    private static void isAfter(NoneSees x, int plan, int... row) {
        for (int y = 0; y < row.length; y++) {
            d.due("row " + y, x.after(plan, y), row[y]);
        }
    }

    private static void afterNext() {
        d.says(15, "the first such way behind what stands now");
        NoneSees x = Due.with("wide 3", 0, 10);
        Due.setAll(x, 0, 0, 3, 6);
        isAfter(x, 0, 0, 0, 1);
        isAfter(x, 1, 0, 1, 2);
        x.take(6);
        Due.setAll(x, 0, 8);
        isAfter(x, 0, 0, 1, 0);
        x.take(3);
        Due.setAll(x, 0, 5);
        isAfter(x, 0, 1, 0, 0);
        isAfter(x, 1, 1, 0, 2);
        x.clear();
        Due.setAll(x, 0, 0, 4, 8);
        isAfter(x, 1, 0, 2, 1);
        x.clear();
        Due.setAll(x, 0, 2, 4, 6);
        isAfter(x, 1, -5, -5, -5);
        isAfter(x, 0, 2, 1, 1);
    }

    private static void afterFirstNamed() {
        d.says(15, "x of a row; -5; -9. NONE: plan, row.");
        NoneSees x = Due.with("wide 3", 40);
        d.due("plan, nobody", x.after(1, 0), -1);
        d.due("row, nobody", x.after(0, 3), -1);
        d.due("row below, nobody", x.after(0, -1), -1);
        d.due("nobody, and no way", x.after(0, 0), -9);
        Due.setAll(x, 0, 2, 5, 8);
        d.due("plan, none behind", x.after(1, 0), -1);
        d.due("row, none behind", x.after(0, 3), -1);
        d.due("none behind", x.after(0, 2), -5);
        d.due("none behind", x.after(0, 0), -5);
    }

    private static void afterOfWhateverPlan() {
        d.says(15, "of whatever PLAN");
        NoneSees x = Due.with("wide 4", 0, 10, 40);
        Due.setAll(x, 0, 1);
        Due.setAll(x, 1, 7, 8);
        Due.setAll(x, 2, 14);
        isAfter(x, 2, 2, 0, 3, 1);
        isAfter(x, 0, 1, 3, 0, 3);
        isAfter(x, 1, 1, 3, 2, 0);
    }

    // ---- 16

    private static void mostNone() {
        d.says(16, "NONE.");
        NoneSees x = Due.with("wide 2", 0);
        for (int plan : NO_PLANS) {
            d.due("most(" + plan + ")", x.most(plan), -1);
        }
        d.due("most(0)", x.most(0), 4);
        d.due("no plans", new NoneSees().most(0), -1);
    }

    private static void mostBounds() {
        d.says(16, "the most MEN of it that can be SET on an empty BOARD AT PEACE");
        d.due("all are barred", Due.with("wide 5;bar n<99", 0).most(0), 0);
        d.due("all are holes", Due.with("wide 5;hole n<99", 40).most(0), 0);
        d.due("one is left", Due.with("wide 5;bar !n=24", 40).most(0), 1);
        d.due("all of 5", Due.with("wide 5", 0).most(0), 25);
        d.due("all but one", Due.with("wide 5;bar n=12", 0).most(0), 24);
        d.due("kings of 2", Due.with("wide 2", 30).most(0), 1);
        d.due("kings of 5", Due.with("wide 5", 30).most(0), 9);
        d.due("rooks of 5", Due.with("wide 5", 10).most(0), 5);
        d.due("rooks in cells of their own", Due.with("wide 5;hole s=1|s=3|s=5|s=7", 10).most(0), 13);
        d.due("bishops of 5", Due.with("wide 5", 20).most(0), 8);
        d.due("queens of 3", Due.with("wide 3", 40).most(0), 2);
        d.due("queens of 4", Due.with("wide 4", 40).most(0), 4);
        d.due("queens of 5", Due.with("wide 5", 40).most(0), 5);
        d.due("round kings of 5", Due.with("wide 5;round", 30).most(0), 5);
        d.due("queens past a hole", Due.with("wide 5;hole n=7", 40).most(0), 5);
        d.due("horses past a hole", Due.with("wide 4;hole n=12", 55).most(0), 8);
        d.due("horses without two corners", Due.with("wide 5;bar n=0|n=24", 55).most(0), 12);
        d.due("horses of 5", Due.with("wide 5", 55).most(0), 13);
        d.due("horses of 4 are bishops", Due.with("wide 5", 54).most(0), 8);
        d.due("horses of 2", Due.with("wide 2", 55).most(0), 4);
        d.due("round horses of 2", Due.with("wide 2;round", 55).most(0), 2);
        NoneSees x = Due.with("wide 5", 60);
        for (int way = 1; way < 8; way++) {
            x.row(0, way, 0);
        }
        d.due("seen by one side is seen", x.most(0), 15);
        x.row(0, 0, 0);
        d.due("no way is open", x.most(0), 25);
    }

    private static void mostEmptyBoard() {
        d.says(16, "can be SET on an empty BOARD");
        NoneSees x = Due.with("wide 5", 40, 0);
        Due.setBits(x, 1, ALL_OF_5);
        d.due("men everywhere", x.most(0), 5);
        d.due("men everywhere", x.most(1), 25);
    }

    private static void mostAtTheEnds() {
        d.says(16, "AT PEACE");
        d.due("the first sees the second", told("wide 5;hole n>1", 0).most(0), 1);
        d.due("the second does not see the first", told("wide 5;hole n>1", 1).most(0), 2);
        d.due("the second sees the first", told("wide 5;hole n>1", 2).most(0), 1);
        d.due("the last but one sees the last", told("wide 5;hole n<23", 0).most(0), 1);
        d.due("the last sees the last but one", told("wide 5;hole n<23", 2).most(0), 1);
    }

    // ---- 17

    private static void holdNone() {
        d.says(17, "what 0 how many, 1 the set (bits); -5. NONE.");
        NoneSees x = Due.with("wide 2", 0);
        int[] none = {-1, 2, 3, MIN, MAX};
        for (int what : none) {
            d.due("hold(0, " + what + ")", x.hold(0, what), -1);
        }
        for (int plan : NO_PLANS) {
            d.due("hold(" + plan + ", 0)", x.hold(plan, 0), -1);
            d.due("hold(" + plan + ", 2)", x.hold(plan, 2), -1);
        }
        d.due("hold(0, 0)", x.hold(0, 0), 4);
        d.due("hold(0, 1)", x.hold(0, 1), 15);
        x = Due.with("wide 3", 0);
        d.due("none so many, what 2", x.hold(0, 2), -1);
        d.due("none so many", x.hold(0, 1), -5);
    }

    private static void isHeld(String text, int plan, int men, int set) {
        NoneSees x = Due.with(text, plan);
        d.due(text + " how many", x.hold(0, 0), men);
        d.due(text + " the set", x.hold(0, 1), set);
    }

    private static void holdOneToFour() {
        d.says(17, "the fewest MEN of it (1 .. 4) that can be SET on an empty BOARD");
        isHeld("wide 3", 30, 1, Due.bits(4));
        isHeld("wide 2;hole n>0", 0, 1, Due.bits(0));
        isHeld("wide 2;hole n>1", 0, 2, Due.bits(0, 1));
        isHeld("wide 2;hole n>2", 0, 3, Due.bits(0, 1, 2));
        isHeld("wide 2", 0, 4, 15);
        isHeld("wide 3;hole n>3", 0, 4, 15);
        isHeld("wide 3;hole n>4", 0, -5, -5);
        isHeld("wide 5;hole n<21", 0, 4, Due.bits(21, 22, 23, 24));
        isHeld("wide 5;hole n<20", 0, -5, -5);
        isHeld("wide 4", 10, 4, 15);
        isHeld("wide 5", 10, -5, -5);
        isHeld("wide 5", 40, 3, Due.bits(6, 7, 8));
        isHeld("wide 5", 30, 4, Due.bits(0, 3, 15, 18));
        NoneSees x = Due.with("wide 2", 0, 0);
        Due.setBits(x, 1, 15);
        d.due("on an empty board", x.hold(0, 0), 4);
    }

    private static void holdNoSoMany() {
        d.says(17, "(-5: by none so many)");
        isHeld("wide 5", 0, -5, -5);
        isHeld("wide 2;hole n<99", 40, -5, -5);
        isHeld("wide 5;bar n<99", 40, -5, -5);
        isHeld("wide 2;bar n=0", 0, -5, -5);
        isHeld("wide 2;bar n>0;hole n>0", 0, 1, 1);
        isHeld("wide 5;hole s=1|s=3|s=5|s=7", 10, -5, -5);
    }

    private static void holdNoHole() {
        d.says(17, "so that each square that is no HOLE has a MAN or is SEEN by one");
        isHeld("wide 2;bar n=3", 10, 2, Due.bits(0, 1));
        isHeld("wide 2;hole n=3", 10, 1, Due.bits(0));
        isHeld("wide 2;bar n=0|n=3", 10, 2, Due.bits(1, 2));
        isHeld("wide 3;hole n=4", 30, 2, Due.bits(3, 5));
        isHeld("wide 3;bar n=4", 30, 2, Due.bits(3, 5));
    }

    private static void holdLeast() {
        d.says(17, "the set of their squares, of several the least as bits");
        isHeld("wide 2", 30, 1, 1);
        isHeld("wide 2;bar n=0", 30, 1, 2);
        isHeld("wide 2", 10, 2, 3);
        isHeld("wide 3", 10, 3, 7);
        isHeld("wide 4", 40, 2, Due.bits(5, 6));
        isHeld("wide 4;bar n=5", 40, 2, Due.bits(4, 7));
    }

    private static void holdAtTheEnds() {
        d.says(17, "so that each square that is no HOLE has a MAN or is SEEN by one");
        NoneSees x = told("wide 2", 0, 1, 4);
        d.due("the first sees all, no other does", x.hold(0, 0), 1);
        d.due("the first", x.hold(0, 1), 1);
        x = told("wide 2", 2, 3, 6);
        d.due("the last sees all, no other does", x.hold(0, 0), 1);
        d.due("the last", x.hold(0, 1), 8);
        x = told("wide 5;hole n<22", 2);
        d.due("a row of three, from the last on", x.hold(0, 0), 2);
        d.due("not from the first", x.hold(0, 1), Due.bits(22, 24));
    }

    // ---- 18

    private static void moreNone() {
        d.says(18, "NONE.");
        NoneSees x = Due.with("wide 2", 0);
        for (int plan : NO_PLANS) {
            d.due("more(" + plan + ")", x.more(plan), -1);
        }
        d.due("more(0)", x.more(0), 15);
    }

    private static void moreBounds() {
        d.says(18, "squares, as bits, where one more of it may be SET and FITS");
        NoneSees x = Due.with("wide 5", 0, 10);
        d.due("all", x.more(0), ALL_OF_5);
        d.due("all", x.more(1), ALL_OF_5);
        Due.setAll(x, 0, 24);
        d.due("all but one", x.more(0), ALL_OF_5 >> 1);
        d.due("who would see him", x.more(1), Due.picture("oooo.", "oooo.", "oooo.", "oooo.", "....."));
        Due.setBits(x, 0, ALL_OF_5 >> 2);
        d.due("one is left", x.more(0), 1 << 23);
        d.due("none for a rook", x.more(1), 0);
        Due.setAll(x, 0, 23);
        d.due("none is left", x.more(0), 0);
        d.due("none", Due.with("wide 5;bar n<99", 0).more(0), 0);
        x = Due.with("wide 5;bar n=0;hole n=24", 0);
        d.due("neither barred nor a hole", x.more(0), ALL_OF_5 & ~Due.bits(0, 24));
        x = Due.with("wide 2", 10, 0);
        Due.setAll(x, 0, 0);
        d.due("not where he sees", x.more(1), 8);
    }

    // ---- 19

    private static void rightNone() {
        d.says(19, "what 0 how few, 1 the set (bits); -5. NONE.");
        int[] none = {-1, 2, 3, MIN, MAX};
        NoneSees x = Due.with("wide 5", 40);
        for (int what : none) {
            d.due("right(" + what + ")", x.right(what), -1);
        }
        d.due("right(0)", x.right(0), 0);
        d.due("right(1)", x.right(1), 0);
        Due.setBits(x, 0, ALL_OF_5);
        d.due("more, what 2", x.right(2), -1);
        d.due("more", x.right(0), -5);
        d.due("more", x.right(1), -5);
    }

    private static void isRight(NoneSees x, int men, int set) {
        d.due("how few", x.right(0), men);
        d.due("the set", x.right(1), set);
    }

    private static void rightNoughtToFour() {
        d.says(19, "the fewest MEN (0 .. 4) without whom all others are AT PEACE (-5: more)");
        NoneSees x = Due.with("wide 5", 10, 0);
        isRight(x, 0, 0);
        Due.setAll(x, 1, 0, 1, 2, 3, 4);
        isRight(x, 0, 0);
        x.clear();
        // a row of rooks: all but one must go
        Due.setAll(x, 0, 0);
        isRight(x, 0, 0);
        Due.setAll(x, 0, 1);
        isRight(x, 1, Due.bits(0));
        Due.setAll(x, 0, 2);
        isRight(x, 2, Due.bits(0, 1));
        Due.setAll(x, 0, 3);
        isRight(x, 3, Due.bits(0, 1, 2));
        Due.setAll(x, 0, 4);
        isRight(x, 4, Due.bits(0, 1, 2, 3));
        Due.setAll(x, 0, 24);
        isRight(x, 4, Due.bits(0, 1, 2, 4));
        Due.setAll(x, 0, 23);
        isRight(x, -5, -5);
        x.take(23);
        x.take(24);
        Due.setAll(x, 0, 20, 21);
        isRight(x, -5, -5);
    }

    private static void rightLeast() {
        d.says(19, "(-5: more); the set of their squares, of several the least as bits");
        NoneSees x = Due.with("wide 5", 10, 0);
        Due.setAll(x, 0, 24);
        Due.setAll(x, 1, 4);
        isRight(x, 1, Due.bits(4));
        Due.setAll(x, 1, 20);
        isRight(x, 1, Due.bits(24));
        x.clear();
        Due.setAll(x, 0, 0, 4, 20, 24);
        isRight(x, 2, Due.bits(4, 20));
        x.clear();
        Due.setAll(x, 0, 1, 3, 21, 23);
        isRight(x, 2, Due.bits(3, 21));
    }

    private static void rightOfTwoWhoSeeMany() {
        d.says(19, "the fewest MEN");
        NoneSees x = Due.with("wide 5", 30, 0);
        Due.setAll(x, 0, 6, 18);
        Due.setAll(x, 1, 0, 2, 10, 24, 22, 14);
        isRight(x, 2, Due.bits(6, 18));
        Due.setAll(x, 1, 1, 23);
        isRight(x, 2, Due.bits(6, 18));
        x = Due.with("wide 5;round", 30, 0);
        Due.setAll(x, 1, 0, 1, 2, 5, 6, 10, 11, 12);
        isRight(x, 0, 0);
        x.take(6);
        Due.setAll(x, 0, 6);
        isRight(x, 1, Due.bits(6));
    }

    private static void rightWithoutWhoIsLeast() {
        d.says(19, "the fewest MEN");
        // five kings in a line, of whom the one in the middle is on the least square: he stays
        NoneSees x = Due.with("wide 5", 30);
        Due.setAll(x, 0, 2, 6, 8, 10, 14);
        isRight(x, 2, Due.bits(6, 8));
        x.take(2);
        isRight(x, 2, Due.bits(6, 8));
        x.take(6);
        isRight(x, 1, Due.bits(8));
    }

    private static void rightAtTheEnds() {
        d.says(19, "without whom all others are AT PEACE");
        NoneSees x = told("wide 5", 0, 4);
        Due.setAll(x, 0, 0);
        Due.setAll(x, 1, 1, 6);
        isRight(x, 1, Due.bits(0));
        x = told("wide 5", 2, 6);
        Due.setAll(x, 0, 24);
        Due.setAll(x, 1, 23, 18);
        isRight(x, 1, Due.bits(24));
        x.take(18);
        isRight(x, 1, Due.bits(23));
    }

    // ---- 20

    private static void gameNone() {
        d.says(20, "GAME: 1, 0; -9. NONE.");
        NoneSees x = Due.with("wide 5", 0);
        for (int plan : NO_PLANS) {
            d.due("game(" + plan + ")", x.game(plan), -1);
        }
        d.due("game(0)", x.game(0), -9);
        Due.setBits(x, 0, ALL_OF_5 >> 1);
        d.due("one square", x.game(0), 1);
        Due.setAll(x, 0, 24);
        d.due("none", x.game(0), 0);
        d.due("none, and no plan", x.game(1), -1);
    }

    private static void gameNine() {
        d.says(20, "(-9: MORE has more than 9 squares)");
        NoneSees x = Due.with("wide 5", 0);
        d.due("25", x.game(0), -9);
        for (int men = 1; men <= 25; men++) {
            Due.setAll(x, 0, 25 - men);
            int left = 25 - men;
            d.due(left + " are left", x.game(0), left > 9 ? -9 : left % 2);
        }
        d.due("nine by what is barred", Due.with("wide 5;bar n>8", 0).game(0), 1);
        d.due("ten by what is barred", Due.with("wide 5;bar n>9", 0).game(0), -9);
        d.due("nine by the width", Due.with("wide 3", 0).game(0), 1);
        d.due("nine that hold each other", Due.with("wide 3", 40).game(0), 1);
        x = Due.with("wide 5", 10, 0);
        Due.setAll(x, 1, 0, 6);
        d.due("nine for a rook", x.game(0), 1);
        d.due("23 for a man", x.game(1), -9);
    }

    private static void gameLost() {
        d.says(20, "who can not has lost: whether who begins now can surely win");
        d.due("no square", Due.with("wide 2;bar n<99", 0).game(0), 0);
        d.due("one square", Due.with("wide 2;bar n>0", 0).game(0), 1);
        d.due("two squares", Due.with("wide 2;bar n>1", 0).game(0), 0);
        d.due("two that see each other", Due.with("wide 2;bar n>1", 10).game(0), 1);
        d.due("a row of three kings", Due.with("wide 3;bar y>0", 30).game(0), 1);
        d.due("a row of four kings", Due.with("wide 4;bar y>0", 30).game(0), 0);
        d.due("rooks of 2", Due.with("wide 2", 10).game(0), 0);
        d.due("rooks of 3", Due.with("wide 3", 10).game(0), 1);
        d.due("kings of 2", Due.with("wide 2", 30).game(0), 1);
    }

    private static void gameFits() {
        d.says(20, "two SET MEN of it by turns, each so that it FITS");
        NoneSees x = Due.with("wide 3", 10, 0, 30);
        Due.setAll(x, 1, 4);
        d.due("rooks past a man: four corners, two of them", x.game(0), 0);
        Due.setAll(x, 0, 0);
        d.due("one corner is left", x.game(0), 1);
        d.due("none is left for kings", x.game(2), 0);
        d.due("three men can be", x.more(1), Due.bits(5, 7, 8));
        d.due("and are, by turns", x.game(1), 1);
    }

    private static void gameAtTheEnds() {
        d.says(20, "whether who begins now can surely win");
        d.due("the first sees the second", told("wide 5;hole n>1", 0).game(0), 1);
        d.due("the second sees the first", told("wide 5;hole n>1", 2).game(0), 1);
        d.due("neither", told("wide 5;hole n>1", 1).game(0), 0);
        d.due("the last but one sees the last", told("wide 5;hole n<23", 0).game(0), 1);
        d.due("the last sees the last but one", told("wide 5;hole n<23", 2).game(0), 1);
        d.due("neither", told("wide 5;hole n<23", 1).game(0), 0);
        d.due("five rooks' squares", Due.with("wide 3;bar n>4", 10).game(0), 0);
        d.due("five kings' squares", Due.with("wide 3;bar n=2|n=4|n=6|n=8", 30).game(0), 0);
        d.due("five kings' squares", Due.with("wide 3;bar n>1&n<6", 30).game(0), 1);
    }

    private static void gameAnew() {
        d.says(20, "whether who begins now can surely win");
        NoneSees x = Due.with("wide 3", 40, 0, 10);
        for (int i = 0; i < 2; i++) {
            d.due("queens", x.game(0), 1);
            d.due("men", x.game(1), 1);
            d.due("rooks", x.game(2), 1);
        }
        Due.yard(x, "wide 2;bar n>1");
        d.due("two men", x.game(1), 0);
        d.due("two queens' squares", x.game(0), 1);
        d.due("two men again", x.game(1), 0);
    }
}
