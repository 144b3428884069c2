/** Promises 1 to 4, each sentence that names a boundary by itself: a new object, plans, their rows. */
public final class BoundsPlansTest {
    private static final Due d = new Due();
    private static final int MIN = Integer.MIN_VALUE, MAX = Integer.MAX_VALUE;

    public static void main(String[] args) {
        newBoard();
        newHasNoClauses();
        newIsFourWide();
        newHasNobody();
        newTapes();
        newRows();
        newHasNoImage();
        answersByName();
        noSuchNumber();
        planNumbers();
        plansAsTheyCome();
        planKind();
        planKindsNamed();
        planNumberV();
        planFull();
        planFirstNamed();
        ofNone();
        ofMen();
        rowNonePlan();
        rowNonePart();
        rowBad();
        rowState();
        rowFirstNamed();
        rowWas();
        rowForEachPlan();
        d.finish();
    }

    private static void newBoard() {
        d.says(1, "An empty BOARD of 4, no PLANS, no YARD.");
        NoneSees x = new NoneSees();
        d.due("told(0)", x.told(0), 4);
        d.due("told(2)", x.told(2), 0);
        d.due("told(5)", x.told(5), 0);
        d.due("told(6)", x.told(6), 1);
        for (int what = 0; what < 7; what++) {
            d.due("count(" + what + ")", x.count(what), 0);
        }
        d.due("of(0, 0)", x.of(0, 0), -1);
        d.due("set(0, 0)", x.set(0, 0), -1);
        d.due("the first plan", x.plan(0, 0), 0);
        d.due("the first yard", Due.yard(x, "flat"), 0);
    }

    private static void newHasNoClauses() {
        d.says(1, "without one there are no CLAUSES");
        NoneSees x = Due.with("", 30);
        d.due("told(1)", x.told(1), 0);
        d.due("told(3)", x.told(3), 0);
        d.due("told(4)", x.told(4), 0);
        d.due("a king in a corner", x.sees(0, 0), Due.picture(".o..", "oo..", "....", "...."));
        d.due("more", x.more(0), 65535);
    }

    private static void newIsFourWide() {
        d.says(1, "WIDE (4 without)");
        NoneSees x = Due.with("", 0);
        d.due("set(0, 15)", x.set(0, 15), 1);
        d.due("set(0, 16)", x.set(0, 16), -1);
        d.due("ways(0, 3)", x.ways(0, 3), 0);
        d.due("ways(0, 4)", x.ways(0, 4), -1);
    }

    private static void newHasNobody() {
        d.says(1, "At most one MAN is on a square (none at first).");
        NoneSees x = new NoneSees();
        for (int square = 0; square < 16; square++) {
            d.due("at(" + square + ", 0)", x.at(square, 0), -5);
            d.due("at(" + square + ", 1)", x.at(square, 1), 0);
            d.due("take(" + square + ")", x.take(square), -3);
        }
        d.due("clear()", x.clear(), 0);
    }

    private static void newTapes() {
        d.says(1, "hold nothing (at first)");
        NoneSees x = new NoneSees();
        for (int tape = 0; tape < 6; tape++) {
            d.due("item(" + tape + ", 0, 1)", x.item(tape, 0, 1), -11);
            d.due("read(" + tape + ", 0)", x.read(tape, 0), NoneSees.NO);
            d.due("judge(" + tape + ", 0)", x.judge(tape, 0), 100);
        }
    }

    private static void newRows() {
        d.says(1, "(eight numbers 0, 1; 1 at first; one for each PLAN)");
        for (int part = 0; part < 8; part++) {
            NoneSees x = Due.with("", 60);
            d.due("row(0, " + part + ", 1)", x.row(0, part, 1), 1);
        }
        NoneSees x = Due.with("", 60, 60);
        for (int part = 0; part < 8; part++) {
            d.due("row(0, " + part + ", 0)", x.row(0, part, 0), 1);
        }
        for (int part = 0; part < 8; part++) {
            d.due("row(1, " + part + ", 0)", x.row(1, part, 0), 1);
        }
    }

    private static void newHasNoImage() {
        d.says(33, "STATE: there is none.");
        NoneSees x = new NoneSees();
        d.due("undo()", x.undo(), -3);
    }

    private static void answersByName() {
        d.says(1, "NONE (-1) no such number; BAD (-2) a number is not as told; STATE (-3) as told; FULL (-4)");
        d.due("NONE", NoneSees.NONE, -1);
        d.due("BAD", NoneSees.BAD, -2);
        d.due("STATE", NoneSees.STATE, -3);
        d.due("FULL", NoneSees.FULL, -4);
    }

    private static void noSuchNumber() {
        d.says(1, "`NO = Long.MIN_VALUE`: There is no such number.");
        d.due("NO", NoneSees.NO, Long.MIN_VALUE);
    }

    private static void planNumbers() {
        d.says(2, "A PLAN: its number.");
        NoneSees x = new NoneSees();
        for (int plan = 0; plan < 6; plan++) {
            d.due("a refused one takes no number", x.plan(7, 0), -1);
            d.due("nor does this one", x.plan(0, 10), -2);
            d.due("plan " + plan, x.plan(6 - plan, plan), plan);
            d.due("count(0)", x.count(0), plan + 1);
        }
        for (int plan = 0; plan < 6; plan++) {
            d.due("of(" + plan + ", 0)", x.of(plan, 0), 6 - plan);
            d.due("of(" + plan + ", 1)", x.of(plan, 1), plan);
        }
    }

    private static void plansAsTheyCome() {
        d.says(2, "PLANS of MEN 0 .. 5, as they come, each of a KIND, with v: MEN that are set are each of some PLAN.");
        NoneSees x = new NoneSees();
        for (int plan = 0; plan < 6; plan++) {
            d.due("not yet", x.set(plan, plan), -1);
            d.due("the same kind and v again", x.plan(0, 7), plan);
            d.due("now", x.set(plan, plan), 1);
        }
        for (int plan = 0; plan < 6; plan++) {
            d.due("a man of each", x.at(plan, 0), plan);
            d.due("of(" + plan + ", 2)", x.of(plan, 2), 1);
        }
        d.due("none of a seventh", x.set(6, 6), -1);
    }

    private static void planKind() {
        d.says(2, "NONE: kind");
        int[] none = {-1, 7, 8, 10, -7, MIN, MAX};
        NoneSees x = new NoneSees();
        for (int kind : none) {
            d.due("plan(" + kind + ", 0)", x.plan(kind, 0), -1);
        }
        d.due("plan(0, 0)", x.plan(0, 0), 0);
        d.due("plan(6, 0)", x.plan(6, 0), 1);
    }

    private static void planKindsNamed() {
        d.says(2, "MEN are of KINDS: 0 MAN; 1 ROOK, 2 BISHOP, 3 KING under MAN; 4 QUEEN under ROOK; "
            + "5 HORSE under BISHOP; 6 TOLD under KING");
        for (int kind = 0; kind < 7; kind++) {
            NoneSees x = new NoneSees();
            d.due("plan(" + kind + ", 0)", x.plan(kind, 0), 0);
            d.due("of(0, 0)", x.of(0, 0), kind);
        }
    }

    private static void planNumberV() {
        d.says(2, "BAD: v");
        int[] bad = {-1, 10, 11, 99, -9, MIN, MAX};
        NoneSees x = new NoneSees();
        for (int kind = 0; kind < 7; kind++) {
            for (int v : bad) {
                d.due("plan(" + kind + ", " + v + ")", x.plan(kind, v), -2);
            }
        }
        d.says(2, "with a number v (0 .. 9)");
        int[] good = {0, 1, 4, 5, 8, 9};
        for (int plan = 0; plan < 6; plan++) {
            d.due("v " + good[plan], x.plan(plan, good[plan]), plan);
            d.due("of(" + plan + ", 1)", x.of(plan, 1), good[plan]);
        }
    }

    private static void planFull() {
        d.says(2, "FULL: 6");
        NoneSees x = Due.with("", 0, 11, 22, 33, 44);
        x.image();
        d.due("the sixth", x.plan(5, 5), 5);
        for (int kind = 0; kind < 7; kind++) {
            d.due("a seventh", x.plan(kind, 0), -4);
        }
        d.due("of(5, 0)", x.of(5, 0), 5);
        d.due("of(6, 0)", x.of(6, 0), -1);
        d.due("one is taken back", x.undo(), 5);
        d.due("of(5, 0)", x.of(5, 0), -1);
        d.due("a sixth again", x.plan(6, 1), 5);
        d.due("and full again", x.plan(6, 1), -4);
    }

    private static void planFirstNamed() {
        d.says(2, "NONE: kind; BAD: v; FULL: 6.");
        NoneSees x = Due.with("", 0, 0, 0, 0, 0);
        d.due("kind and v", x.plan(7, 10), -1);
        d.due("kind and v, below", x.plan(-1, -1), -1);
        x.plan(0, 0);
        d.due("kind, v and full", x.plan(7, 10), -1);
        d.due("kind and full", x.plan(-1, 0), -1);
        d.due("v and full", x.plan(0, 10), -2);
        d.due("v below and full", x.plan(6, -1), -2);
        d.due("full alone", x.plan(6, 9), -4);
    }

    private static void ofNone() {
        d.says(3, "NONE.");
        NoneSees x = Due.with("", 47, 63);
        int[] none = {-1, 2, 3, 6, MIN, MAX};
        for (int plan : none) {
            for (int what = -1; what < 4; what++) {
                d.due("of(" + plan + ", " + what + ")", x.of(plan, what), -1);
            }
        }
        int[] noneToo = {-1, 3, 4, MIN, MAX};
        for (int what : noneToo) {
            d.due("of(0, " + what + ")", x.of(0, what), -1);
            d.due("of(1, " + what + ")", x.of(1, what), -1);
        }
        d.due("of(0, 0)", x.of(0, 0), 4);
        d.due("of(1, 1)", x.of(1, 1), 3);
        d.due("of(1, 2)", x.of(1, 2), 0);
    }

    private static void ofMen() {
        d.says(3, "Of a PLAN what 0 KIND, 1 v, 2 how many MEN of it there are.");
        NoneSees x = Due.with("wide 5", 0, 69);
        d.due("the least kind", x.of(0, 0), 0);
        d.due("the greatest kind", x.of(1, 0), 6);
        d.due("the least v", x.of(0, 1), 0);
        d.due("the greatest v", x.of(1, 1), 9);
        d.due("none", x.of(0, 2), 0);
        for (int square = 0; square < 25; square++) {
            x.set(0, square);
            d.due("so many", x.of(0, 2), square + 1);
        }
        d.due("none of the other", x.of(1, 2), 0);
        x.take(24);
        x.set(1, 24);
        d.due("one less", x.of(0, 2), 24);
        d.due("one", x.of(1, 2), 1);
        x.clear();
        d.due("none again", x.of(0, 2) + x.of(1, 2), 0);
    }

    private static void rowNonePlan() {
        d.says(4, "NONE: plan");
        int[] none = {-1, 1, 6, MIN, MAX};
        NoneSees x = Due.with("", 60);
        for (int plan : none) {
            d.due("row(" + plan + ", 0, 1)", x.row(plan, 0, 1), -1);
        }
        d.due("row(0, 0, 1)", x.row(0, 0, 1), 1);
    }

    private static void rowNonePart() {
        d.says(4, "NONE: plan, part");
        int[] none = {-1, 8, 32, 39, MIN, MAX};
        NoneSees x = Due.with("", 60);
        for (int part : none) {
            d.due("row(0, " + part + ", 0)", x.row(0, part, 0), -1);
        }
        d.says(4, "for way part (0 .. 7)");
        d.due("all ways are open", x.sees(0, 5), Due.picture("ooo.", "o.o.", "ooo.", "...."));
        d.due("row(0, 0, 0)", x.row(0, 0, 0), 1);
        d.due("row(0, 7, 0)", x.row(0, 7, 0), 1);
        d.due("without the first and the last", x.sees(0, 5), Due.picture("oo..", "o...", "ooo.", "...."));
    }

    private static void rowBad() {
        d.says(4, "n (0, 1)");
        int[] bad = {-1, 2, 3, 256, MIN, MAX};
        NoneSees x = Due.with("", 60);
        for (int n : bad) {
            d.due("row(0, 3, " + n + ")", x.row(0, 3, n), -2);
        }
        d.due("row(0, 3, 0)", x.row(0, 3, 0), 1);
        for (int n : bad) {
            d.due("row(0, 3, " + n + ")", x.row(0, 3, n), -2);
        }
        d.due("row(0, 3, 1)", x.row(0, 3, 1), 0);
        d.due("row(0, 3, 1)", x.row(0, 3, 1), 1);
    }

    private static void rowState() {
        d.says(4, "STATE: another KIND.");
        for (int kind = 0; kind < 6; kind++) {
            NoneSees x = Due.with("", kind * 10 + 9, 60);
            for (int part = 0; part < 8; part++) {
                d.due("row(0, " + part + ", 0), kind " + kind, x.row(0, part, 0), -3);
                d.due("row(0, " + part + ", 1), kind " + kind, x.row(0, part, 1), -3);
            }
            d.due("TOLD", x.row(1, 0, 0), 1);
        }
    }

    private static void rowFirstNamed() {
        d.says(4, "NONE: plan, part; BAD; STATE: another KIND.");
        NoneSees x = Due.with("", 30, 60);
        d.due("plan, n", x.row(2, 0, 2), -1);
        d.due("part, n", x.row(1, 8, 2), -1);
        d.due("part, n, kind", x.row(0, -1, -1), -1);
        d.due("part, kind", x.row(0, 8, 0), -1);
        d.due("n, kind", x.row(0, 7, 2), -2);
        d.due("n below, kind", x.row(0, 0, -1), -2);
        d.due("kind", x.row(0, 0, 0), -3);
    }

    private static void rowWas() {
        d.says(4, "what it was.");
        NoneSees x = Due.with("", 60);
        for (int part = 0; part < 8; part++) {
            d.due("1 to 1", x.row(0, part, 1), 1);
            d.due("1 to 0", x.row(0, part, 0), 1);
            d.due("0 to 0", x.row(0, part, 0), 0);
            d.due("0 to 1", x.row(0, part, 1), 0);
            d.due("1 to 0", x.row(0, part, 0), 1);
        }
        d.due("no way is open", x.sees(0, 5), 0);
    }

    private static void rowForEachPlan() {
        d.says(4, "one for each PLAN");
        NoneSees x = Due.with("", 60, 60, 60, 60, 60, 60);
        for (int plan = 0; plan < 6; plan++) {
            d.due("row(" + plan + ", " + plan + ", 0)", x.row(plan, plan, 0), 1);
        }
        for (int plan = 0; plan < 6; plan++) {
            for (int part = 0; part < 8; part++) {
                d.due("row(" + plan + ", " + part + ", 1)", x.row(plan, part, 1), plan == part ? 0 : 1);
            }
        }
    }
}
