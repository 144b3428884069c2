/** Promises 31 to 37, each sentence that names a boundary by itself: judging, the image, acts, counts. */
public final class BoundsJudgingTest {
    private static final Due d = new Due();
    private static final int MIN = Integer.MIN_VALUE, MAX = Integer.MAX_VALUE;
    private static final int BOOLEANS = 4;

    public static void main(String[] args) {
        judgeNone();
        judgeCast();
        judgeFirstNamed();
        judgeNothing();
        judgePlace();
        judgeRowEnds();
        judgeOtherwise();
        judgeAllSquares();
        imageMany();
        imageNewest();
        undoState();
        undoAll();
        undoOfFull();
        undoToldNumbers();
        undoYard();
        undoLeavesTheRest();
        actNone();
        actNamed();
        actWrapsLooks();
        actWrapsSees();
        actWrapsTells();
        actPlanNumber();
        actOwnBody();
        actBodyAbove();
        actSuper();
        actFromTheLeft();
        traceNone();
        traceKept();
        traceLatest();
        takenBad();
        takenNothing();
        takenCast();
        takenFirstNamed();
        countBad();
        countBounds();
        d.finish();
    }

    // ---- 31

    private static void judgeNone() {
        d.says(31, "NONE: tape");
        int[] none = {-1, 6, 7, MIN, MAX};
        NoneSees x = new NoneSees();
        for (int tape : none) {
            d.due("judge(" + tape + ", 0)", x.judge(tape, 0), -1);
            d.due("judge(" + tape + ", -1)", x.judge(tape, -1), -1);
        }
        for (int tape = 0; tape < 6; tape++) {
            x.tape(tape, BOOLEANS, 16);
            d.due("judge(" + tape + ", 0)", x.judge(tape, 0), -5);
        }
    }

    private static void judgeCast() {
        d.says(31, "CAST: it is no row of booleans.");
        NoneSees x = new NoneSees();
        for (int sort = 0; sort < 4; sort++) {
            x.tape(5, sort, 16);
            d.due("sort " + sort, x.judge(5, 0), -12);
            x.tape(5, sort, 0);
            d.due("empty, sort " + sort, x.judge(5, 0), -12);
        }
        x.tape(5, BOOLEANS, 16);
        d.due("booleans", x.judge(5, 0), -5);
        x.tape(5, BOOLEANS, 0);
        d.due("empty, of booleans", x.judge(5, 0), 100);
        x.tape(5, -1, 0);
        d.due("nothing", x.judge(5, 0), 100);
    }

    private static void judgeFirstNamed() {
        d.says(31, "NONE: tape; CAST: it is no row of booleans.");
        NoneSees x = new NoneSees();
        x.tape(0, 3, 16);
        d.due("no tape, place below 0", x.judge(6, -1), -1);
        d.due("longs, place below 0", x.judge(0, -1), -12);
        d.due("longs, place behind the end", x.judge(0, 16), -12);
        d.due("nothing, place below 0", x.judge(1, -1), 100);
    }

    private static void judgeNothing() {
        d.says(31, "or the TAPE holds nothing");
        NoneSees x = new NoneSees();
        for (int tape = 0; tape < 6; tape++) {
            d.due("judge(" + tape + ", 0)", x.judge(tape, 0), 100);
            d.due("judge(" + tape + ", 59)", x.judge(tape, 59), 100);
            x.tape(tape, BOOLEANS, 60);
            x.tape(tape, -1, 60);
            d.due("nothing again", x.judge(tape, 0), 100);
        }
    }

    private static void judgePlace() {
        d.says(31, "(or the place is below 0");
        int[] below = {-1, -2, -16, -60, MIN};
        NoneSees x = new NoneSees();
        x.tape(0, BOOLEANS, 60);
        for (int place : below) {
            d.due("judge(0, " + place + ")", x.judge(0, place), 100);
        }
        d.due("judge(0, 0)", x.judge(0, 0), -5);
        int[] behind = {60, 61, 64, MAX - 16, MAX - 1, MAX};
        for (int place : behind) {
            d.due("judge(0, " + place + ")", x.judge(0, place), 100);
        }
    }

    private static void judgeRowEnds() {
        d.says(31, "100 and how many were looked at, if the row ends ahead of that");
        for (int wide = 2; wide <= 5; wide++) {
            NoneSees x = Due.on("wide " + wide);
            int all = wide * wide;
            for (int n = 0; n <= all + 1; n++) {
                x.tape(0, BOOLEANS, n);
                d.due("wide " + wide + ", a row of " + n, x.judge(0, 0), n < all ? 100 + n : -5);
            }
            x.tape(0, BOOLEANS, 60);
            d.due("just to its end", x.judge(0, 60 - all), -5);
            d.due("one too few", x.judge(0, 61 - all), 100 + all - 1);
            d.due("one alone", x.judge(0, 59), 101);
            d.due("none", x.judge(0, 60), 100);
        }
    }

    private static void judgeOtherwise() {
        d.says(31, "the first that is otherwise");
        NoneSees x = Due.with("wide 3", 0);
        Due.setAll(x, 0, 1, 8);
        x.tape(0, BOOLEANS, 12);
        d.due("a man who is not told", x.judge(0, 0), 1);
        x.item(0, 1, 1);
        d.due("the last square", x.judge(0, 0), 8);
        x.item(0, 0, 1);
        d.due("nobody, though told", x.judge(0, 0), 0);
        d.says(31, "from a place on, square by square");
        x.tape(0, BOOLEANS, 12);
        x.item(0, 4, 1);
        x.item(0, 11, -1);
        d.due("from place 3 to the last item", x.judge(0, 3), -5);
        d.due("from place 2", x.judge(0, 2), 1);
        d.due("from place 4", x.judge(0, 4), 0);
        d.due("from place 5", x.judge(0, 5), 1);
        x.take(1);
        d.due("ahead of the end", x.judge(0, 6), 5);
        d.due("at the last item", x.judge(0, 11), 0);
        d.due("behind it", x.judge(0, 12), 100);
    }

    private static void judgeAllSquares() {
        // there is always some square to look at: WIDE is 2 at least
        d.says(31, "-5: none, or there is none to look at");
        NoneSees least = Due.on("wide 2");
        least.tape(0, BOOLEANS, 4);
        d.due("the fewest squares", least.judge(0, 0), -5);
        least.tape(0, BOOLEANS, 3);
        d.due("one item less", least.judge(0, 0), 103);
        NoneSees x = Due.with("wide 5;hole n=3;bar n=4", 0);
        x.tape(0, BOOLEANS, 25);
        d.due("nobody, nothing told", x.judge(0, 0), -5);
        for (int square = 0; square < 25; square++) {
            x.item(0, square, 1);
            d.due("told, and nobody on " + square, x.judge(0, 0), square);
            x.item(0, square, square == 3 || square == 4 ? 0 : 1);
            x.set(0, square);
            d.due("told as it is on " + square, x.judge(0, 0), -5);
        }
        x.clear();
        d.due("cleared", x.judge(0, 0), 0);
    }

    // ---- 32, 33

    private static void imageMany() {
        d.says(32, "THE IMAGE is taken: how many PLANS there are.");
        NoneSees x = new NoneSees();
        for (int plan = 0; plan <= 6; plan++) {
            d.due("image()", x.image(), plan);
            d.due("undo()", x.undo(), plan);
            x.plan(0, 0);
        }
        d.due("six", x.image(), 6);
    }

    private static void imageNewest() {
        d.says(32, "THE IMAGE is taken");
        NoneSees x = Due.with("", 0);
        x.image();
        Due.setAll(x, 0, 3);
        x.image();
        Due.setAll(x, 0, 4);
        d.due("undo()", x.undo(), 1);
        d.due("as the newest image", x.told(5), Due.bits(3));
        d.due("undo()", x.undo(), 1);
        d.due("not as the older one", x.told(5), Due.bits(3));
    }

    private static void undoState() {
        d.says(33, "STATE: there is none.");
        NoneSees x = Due.with("wide 3", 0);
        d.due("undo()", x.undo(), -3);
        d.due("undo()", x.undo(), -3);
        x.image();
        d.due("undo()", x.undo(), 1);
        d.due("again", x.undo(), 1);
        d.due("an empty one is one", imageOfNothing(), 0);
    }

    private static int imageOfNothing() {
        NoneSees x = new NoneSees();
        x.image();
        return x.undo();
    }

    private static void undoAll() {
        d.says(33, "All is as THE IMAGE: how many PLANS.");
        NoneSees x = new NoneSees();
        x.image();
        x.plan(6, 1);
        x.plan(0, 2);
        x.row(0, 2, 0);
        Due.setAll(x, 1, 15);
        x.aim(1);
        x.see(1, 1);
        x.book(1);
        d.due("undo()", x.undo(), 0);
        d.due("no plans", x.of(0, 0), -1);
        d.due("no men", x.told(2), 0);
        for (int what : new int[] {0, 2, 3, 4}) {
            d.due("count(" + what + ")", x.count(what), 0);
        }
        d.due("a plan anew", x.plan(6, 3), 0);
        d.due("with a row of its own", x.row(0, 2, 1), 1);
        d.due("its own v", x.of(0, 1), 3);
        d.due("nobody of it", x.of(0, 2), 0);
    }

    private static void undoOfFull() {
        d.says(33, "PLANS with all that is theirs, MEN, THE AIM, SEEN, the BOOK, which YARD holds");
        NoneSees x = Due.with("wide 5;round;hole n=3;bar n=7", 60, 11, 22, 33, 44, 55);
        x.row(0, 7, 0);
        for (int square = 0; square < 25; square++) {
            x.set(square % 6, square);
        }
        for (int k = 0; k < 12; k++) {
            x.aim(24 - k);
            x.see(24 - k, k);
            x.book(24 - k);
        }
        d.due("image()", x.image(), 6);
        Due.yard(x, "wide 2");
        x.row(0, 7, 1);
        x.row(0, 0, 0);
        Due.setAll(x, 3, 0);
        x.aim(0);
        x.see(0, 0);
        x.book(0);
        d.due("undo()", x.undo(), 6);
        for (int plan = 0; plan < 6; plan++) {
            d.due("kind of " + plan, x.of(plan, 0), plan == 0 ? 6 : plan);
            d.due("v of " + plan, x.of(plan, 1), plan);
        }
        d.due("way 7", x.row(0, 7, 0), 0);
        d.due("way 0", x.row(0, 0, 1), 1);
        for (int square = 0; square < 25; square++) {
            d.due("man on " + square, x.at(square, 0), square == 3 || square == 7 ? -5 : square % 6);
        }
        d.due("wide", x.told(0), 5);
        d.due("round", x.told(1), 1);
        d.due("holes", x.told(3), Due.bits(3));
        d.due("barred", x.told(4), Due.bits(3, 7));
        for (int square = 0; square < 25; square++) {
            d.due("aim(" + square + ")", x.aim(square), square >= 20 ? -2 : -4);
        }
        d.due("seen", x.see(0, 0), -4);
        d.due("the book", x.book(0), -4);
        x.take(13);
        d.due("its last square", x.looked(), 11);
        x.take(24);
        d.due("its first square", x.looked(), 0);
    }

    private static void undoToldNumbers() {
        d.says(33, "All is as THE IMAGE");
        NoneSees x = Due.with("wide 2", 10, 0);
        x.see(0, 1);
        x.see(3, 0);
        x.image();
        d.due("none sees 0 and not 3", x.rubbed(0), 0);
        x.see(-1, 0);
        x.see(0, 1);
        x.see(3, 1);
        d.due("who sees 0 and 3", x.rubbed(0), Due.bits(1, 2));
        x.undo();
        d.due("as it was told", x.rubbed(0), 0);
        x.see(-1, 0);
        x.undo();
        d.due("count(3)", x.count(3), 2);
        d.due("as it was told", x.rubbed(0), 0);
        x.see(-1, 0);
        x.see(3, 0);
        d.due("anew", x.rubbed(0), Due.bits(0, 3));
    }

    private static void undoYard() {
        d.says(33, "which YARD holds");
        NoneSees x = Due.with("", 0);
        x.image();
        for (int i = 0; i < 6; i++) {
            d.due("yard", Due.yard(x, "wide 2;round"), i);
            d.due("undo()", x.undo(), 1);
            d.due("none holds: wide 4", x.told(0), 4);
            d.due("none holds: flat", x.told(1), 0);
            d.due("so many yards all the same", x.count(1), i + 1);
        }
        d.due("still full", Due.yard(x, "flat"), -4);
        x = Due.with("wide 3", 0);
        x.image();
        Due.yard(x, "wide 5");
        x.undo();
        d.due("the older one", x.told(0), 3);
        d.due("the next one's number", Due.yard(x, "wide 2"), 2);
        d.due("the newest", x.told(0), 2);
    }

    private static void undoLeavesTheRest() {
        d.says(33, "THE IMAGE: PLANS with all that is theirs, MEN, THE AIM, SEEN, the BOOK, which YARD holds.");
        NoneSees x = Due.with("", 0, 60);
        x.image();
        Due.feed(x, "wide");
        x.tape(2, 1, 3);
        x.item(2, 2, -4);
        x.act(1, 2, 7);
        x.undo();
        d.due("the text", x.count(5), 4);
        d.due("a tape", x.read(2, 2), -4);
        d.due("the trace", x.trace(0), 40);
        d.due("bodies that ran", x.count(6), 12);
        d.due("the text goes on", Due.yard(x, " 3"), 0);
        d.due("and is a yard", x.told(0), 3);
    }

    // ---- 34, 35

    private static void actNone() {
        d.says(34, "0, and no TRACE then: no such PLAN, act.");
        int[] noPlans = {-1, 1, 6, MIN, MAX};
        int[] noActs = {-1, 3, 4, MIN, MAX};
        NoneSees x = Due.with("", 69);
        for (int plan : noPlans) {
            d.due("act(0, 0, 5)", x.act(0, 0, 5), 5 ^ 9);
            d.due("bodies", x.count(6), 2);
            d.due("act(" + plan + ", 0, 5)", x.act(plan, 0, 5), 0);
            d.due("no bodies", x.count(6), 0);
            d.due("no trace", x.trace(0), -1);
        }
        for (int act : noActs) {
            d.due("act(0, 0, 5)", x.act(0, 0, 5), 5 ^ 9);
            d.due("act(0, " + act + ", 5)", x.act(0, act, 5), 0);
            d.due("no bodies", x.count(6), 0);
            d.due("no trace", x.trace(0), -1);
        }
        d.due("neither", x.act(1, 3, 5), 0);
    }

    private static void actNamed() {
        d.says(34, "(0 looks, 1 sees, 2 tells)");
        NoneSees x = Due.with("", 3);
        d.due("looks", x.act(0, 0, 10), 10);
        d.due("sees", x.act(0, 1, 10), 7);
        d.due("tells", x.act(0, 2, 10), 14);
    }

    private static void actWrapsLooks() {
        d.says(34, "ACTS of a PLAN with x (wrapping): 0 looks");
        NoneSees x = Due.with("", 0, 0, 20, 40, 69, 20);
        d.due("x + i", x.act(1, 0, MAX), MIN);
        d.due("x + i, not yet", x.act(1, 0, MAX - 1), MAX);
        d.due("x + 0", x.act(0, 0, MAX), MAX);
        d.due("x * 3, then + 2", x.act(2, 0, 715827882), MAX - 1 + 2);
        d.due("x * 3, not yet", x.act(2, 0, 715827881), 715827881 * 3 + 2);
        d.due("x * 3 + 5", x.act(5, 0, MIN), MIN + 5);
        d.due("MAX * 3 + 5", x.act(5, 0, MAX), MAX - 2 + 5);
        d.due("-(x + 3)", x.act(3, 0, MIN - 3), MIN);
        d.due("-(x + 3)", x.act(3, 0, MAX), MAX - 1);
        d.due("(x + 4) ^ 9", x.act(4, 0, MAX), (MIN + 3) ^ 9);
        d.due("(x + 4) ^ 9", x.act(4, 0, MIN), (MIN + 4) ^ 9);
    }

    private static void actWrapsSees() {
        d.says(34, "11 sees: looks(x) - v");
        NoneSees x = Due.with("", 9, 19, 29, 39, 40, 60);
        d.due("x - 9", x.act(0, 1, MIN), MAX - 8);
        d.due("x - 9, not yet", x.act(0, 1, MIN + 9), MIN);
        d.says(34, "20 sees: super.sees(x) ^ 6");
        d.due("(x + 1 - 9) ^ 6", x.act(1, 1, MIN), (MAX - 7) ^ 6);
        d.due("(MAX + 1 - 9) ^ 6", x.act(1, 1, MAX), (MAX - 8) ^ 6);
        d.says(34, "51 sees: super.sees(x + 1)");
        d.due("(-(MIN + 4) - 0) ^ 6", x.act(4, 1, MAX), (MIN - 4) ^ 6);
        d.says(34, "70 sees: super.sees(x) + super.looks(2)");
        d.due("MAX + 2 + 5", x.act(5, 1, MAX - 5), MIN + 6);
        d.due("less, not yet", x.act(5, 1, MAX - 12), MAX);
    }

    private static void actWrapsTells() {
        d.says(34, "12 tells: sees(x) * 2");
        NoneSees x = Due.with("", 0, 30, 50, 55, 69, 30);
        d.due("not yet", x.act(0, 2, 1 << 30 - 1), 1 << 30);
        d.due("MAX / 2 * 2", x.act(0, 2, MAX / 2), MAX - 1);
        d.due("2 to the 30th, twice", x.act(0, 2, 1 << 30), MIN);
        d.due("MAX twice", x.act(0, 2, MAX), -2);
        d.due("MIN twice", x.act(0, 2, MIN), 0);
        d.says(34, "40 tells: super.tells(x) + sees(1)");
        d.due("MAX - 1 and 2", x.act(1, 2, MAX / 2 - 1), MIN);
        d.due("MAX - 3 and 2", x.act(1, 2, MAX / 2 - 2), MAX - 1);
        d.says(34, "60 tells: super.tells(x - i)");
        d.due("(x - 2) * 3 + 2, twice", x.act(2, 2, MIN + 1), ((MAX) * 3 + 2) * 2);
        d.due("(x - 3) * 3 + 3 - 5, twice", x.act(3, 2, MIN), ((MAX - 2) * 3 - 2) * 2);
    }

    private static void actPlanNumber() {
        d.says(34, "i its number");
        NoneSees x = Due.with("", 0, 0, 0, 0, 0, 0);
        for (int plan = 0; plan < 6; plan++) {
            d.due("plan " + plan, x.act(plan, 0, -2), plan - 2);
        }
    }

    /** What ran, body by body. */
    private static void ran(NoneSees x, int plan, int act, int... bodies) {
        x.act(plan, act, 1);
        for (int i = 0; i < bodies.length; i++) {
            d.due("act(" + plan + ", " + act + ", 1), trace(" + i + ")", x.trace(i), bodies[i]);
        }
        d.due("act(" + plan + ", " + act + ", 1), bodies", x.count(6), bodies.length);
    }

    private static void actOwnBody() {
        d.says(34, "looks(..) and so on: the body of its KIND");
        NoneSees x = Due.with("", 0, 10, 20, 30, 40, 50);
        ran(x, 0, 0, 10);
        ran(x, 1, 1, 20, 11, 10);
        ran(x, 2, 0, 30, 10);
        ran(x, 3, 2, 40, 12, 11, 10, 11, 10);
        ran(x, 4, 0, 50, 10);
        ran(x, 5, 2, 60, 12, 11, 30, 10);
        d.says(34, "all that stands in a body");
        // a body of MAN asks the KIND that the man is of, not MAN
        ran(x, 2, 1, 11, 30, 10);
        ran(x, 4, 2, 12, 51, 20, 11, 50, 10);
    }

    private static void actBodyAbove() {
        d.says(34, "or, if that has none, of the next KIND above that has one");
        NoneSees x = Due.with("", 10, 20, 30, 40, 50, 60);
        ran(x, 0, 0, 10);
        ran(x, 0, 2, 12, 20, 11, 10);
        ran(x, 1, 2, 12, 11, 30, 10);
        ran(x, 2, 0, 10);
        ran(x, 2, 1, 11, 10);
        ran(x, 3, 2, 12, 51, 20, 11, 50, 10);
        ran(x, 4, 0, 30, 10);
        ran(x, 4, 1, 11, 30, 10);
        ran(x, 5, 2, 40, 12, 70, 11, 71, 10, 10, 70, 11, 71, 10, 10);
    }

    private static void actSuper() {
        d.says(34, "super.looks(..): so from the KIND above the body's on");
        NoneSees x = Due.with("", 40, 60, 50);
        // above QUEEN's looks is ROOK, which has none, then MAN; above TOLD's sees is KING, then MAN
        ran(x, 0, 0, 50, 10);
        ran(x, 0, 1, 51, 20, 11, 50, 10);
        ran(x, 1, 0, 71, 10);
        ran(x, 1, 1, 70, 11, 71, 10, 10);
        ran(x, 2, 2, 60, 12, 11, 30, 10);
    }

    private static void actFromTheLeft() {
        d.says(34, "all that stands in a body is done from the left on");
        NoneSees x = Due.with("", 65, 31);
        ran(x, 0, 1, 70, 11, 71, 10, 10);
        d.due("(7 ^ 5) - 5 + 2", x.act(0, 1, 7), -1);
        ran(x, 1, 2, 40, 12, 11, 10, 11, 10);
        d.due("(7 + 1 - 1) * 2 + (1 + 1 - 1)", x.act(1, 2, 7), 15);
    }

    private static void traceNone() {
        d.says(35, "NONE.");
        int[] none = {-1, 12, 13, 19, 20, 21, MIN, MAX};
        NoneSees x = Due.with("", 60, 0);
        for (int i = -1; i < 21; i++) {
            d.due("no act yet, trace(" + i + ")", x.trace(i), -1);
        }
        x.act(0, 2, 0);
        for (int i : none) {
            d.due("trace(" + i + ")", x.trace(i), -1);
        }
        d.due("trace(0)", x.trace(0), 40);
        d.due("trace(11)", x.trace(11), 10);
        x.act(1, 0, 0);
        d.due("one body", x.trace(0), 10);
        d.due("none behind it", x.trace(1), -1);
    }

    /** The longest trace that there can be has twelve bodies, so all of every act's are kept. */
    private static void traceKept() {
        d.says(35, "as they began; the first 20 are kept");
        int[] many = {3, 4, 4, 6, 6, 5, 12};
        for (int kind = 0; kind < 7; kind++) {
            NoneSees x = Due.with("", kind * 10);
            x.act(0, 2, 1);
            d.due("bodies of kind " + kind, x.count(6), many[kind]);
            for (int i = 0; i < 21; i++) {
                d.due("kept, trace(" + i + ")", x.trace(i) > 0 ? 1 : 0, i < many[kind] ? 1 : 0);
            }
        }
        NoneSees x = Due.with("", 60);
        x.act(0, 2, 1);
        int[] bodies = {40, 12, 70, 11, 71, 10, 10, 70, 11, 71, 10, 10};
        for (int i = 0; i < bodies.length; i++) {
            d.due("trace(" + i + ")", x.trace(i), bodies[i]);
        }
    }

    private static void traceLatest() {
        d.says(35, "THE TRACE: the numbers of the bodies that ran in the latest act()");
        NoneSees x = Due.with("", 60, 40);
        for (int i = 0; i < 40; i++) {
            x.act(0, 2, i);
            d.due("always as many", x.count(6), 12);
        }
        x.act(1, 1, 3);
        int[] bodies = {51, 20, 11, 50, 10, -1, -1, -1, -1, -1, -1, -1, -1};
        for (int i = 0; i < bodies.length; i++) {
            d.due("none of an older act, trace(" + i + ")", x.trace(i), bodies[i]);
        }
    }

    // ---- 36, 37

    private static void takenBad() {
        d.says(36, "BAD: k");
        int[] bad = {-1, 7, 8, MIN, MAX};
        NoneSees x = Due.with("", 60);
        for (int k : bad) {
            d.due("taken(0, " + k + ")", x.taken(0, k), -2);
        }
        d.due("taken(0, 0)", x.taken(0, 0), 6);
        d.due("taken(0, 6)", x.taken(0, 6), 6);
    }

    private static void takenNothing() {
        d.says(36, "NOTHING: no such PLAN");
        int[] none = {-1, 1, 6, MIN, MAX};
        NoneSees x = Due.with("", 0);
        for (int plan : none) {
            for (int k = 0; k < 7; k++) {
                d.due("taken(" + plan + ", " + k + ")", x.taken(plan, k), -11);
            }
        }
        d.due("taken(0, 0)", x.taken(0, 0), 0);
    }

    private static void takenCast() {
        d.says(36, "A PLAN taken for one of KIND k (0 .. 6), or one under that: its KIND. BAD: k; NOTHING: no such "
            + "PLAN; CAST.");
        String[] is = {"0", "01", "02", "03", "014", "025", "036"};
        for (int kind = 0; kind < 7; kind++) {
            NoneSees x = Due.with("", kind * 10);
            for (int k = 0; k < 7; k++) {
                boolean good = is[kind].indexOf('0' + k) >= 0;
                d.due("kind " + kind + " for " + k, x.taken(0, k), good ? kind : -12);
            }
        }
    }

    private static void takenFirstNamed() {
        d.says(36, "BAD: k; NOTHING: no such PLAN; CAST.");
        NoneSees x = Due.with("", 0);
        d.due("k and plan", x.taken(1, 7), -2);
        d.due("k and plan, below", x.taken(-1, -1), -2);
        d.due("k alone", x.taken(0, 7), -2);
        d.due("plan", x.taken(1, 6), -11);
        d.due("kind", x.taken(0, 6), -12);
    }

    private static void countBad() {
        d.says(37, "BAD.");
        int[] bad = {-1, 7, 8, MIN, MAX};
        NoneSees x = new NoneSees();
        for (int what : bad) {
            d.due("count(" + what + ")", x.count(what), -2);
        }
        d.due("count(0)", x.count(0), 0);
        d.due("count(6)", x.count(6), 0);
    }

    private static void countBounds() {
        d.says(37, "0 PLANS, 1 YARDS, 2 of THE AIM, 3 of SEEN, 4 of the BOOK, 5 bytes of THE TEXT, 6 bodies that ran");
        NoneSees x = new NoneSees();
        for (int what = 0; what < 7; what++) {
            d.due("empty, count(" + what + ")", x.count(what), 0);
        }
        for (int i = 0; i < 7; i++) {
            x.plan(6, i);
            Due.yard(x, "flat");
        }
        for (int i = 0; i < 14; i++) {
            x.aim(i);
            x.see(i, i);
            x.book(i);
        }
        Due.feed(x, "f".repeat(101));
        x.act(5, 2, 5);
        // the text that the seventh yard left is in it
        int[] full = {6, 6, 5, 8, 12, 100, 12};
        for (int what = 0; what < 7; what++) {
            d.due("full, count(" + what + ")", x.count(what), full[what]);
        }
        d.says(37, "6 bodies that ran in the latest act() (all, kept or not)");
        x.act(0, 0, 0);
        d.due("of a shorter act", x.count(6), 2);
        x.act(6, 0, 0);
        d.due("of none", x.count(6), 0);
    }
}
