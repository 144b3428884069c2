/** Promises 1 to 12: plans, yards, men. */
public final class PlansYardsMenTest {
    private static final Due d = new Due();

    public static void main(String[] args) {
        newObject();
        plan();
        of();
        row();
        feed();
        yardNumbers();
        yardFaults();
        yardTests();
        yardClauses();
        told();
        set();
        take();
        at();
        seesFlat();
        seesRound();
        seesHoles();
        clear();
        d.finish();
    }

    private static void newObject() {
        d.part("1 new");
        NoneSees x = new NoneSees();
        long[] told = {4, 0, 0, 0, 0, 0, 1};
        for (int what = 0; what < told.length; what++) {
            d.due("told " + what, x.told(what), told[what]);
            d.due("count " + what, x.count(what), 0);
        }
        d.due("of", x.of(0, 0), NoneSees.NONE);
        d.due("undo", x.undo(), NoneSees.STATE);
        d.due("trace", x.trace(0), NoneSees.NONE);
        d.due("constants", NoneSees.NONE + 10 * NoneSees.BAD + 100 * NoneSees.STATE + 1000 * NoneSees.FULL, -4321);
        d.due("NO", NoneSees.NO, Long.MIN_VALUE);
        for (int i = 0; i < 6; i++) {
            d.due("read", x.read(i, 0), NoneSees.NO);
        }
        for (int square = 0; square < 16; square++) {
            d.due("at", x.at(square, 0), -5);
        }
    }

    private static void plan() {
        d.part("2 plan");
        NoneSees x = new NoneSees();
        d.due("kind -1", x.plan(-1, 0), -1);
        d.due("kind 7", x.plan(7, 0), -1);
        d.due("kind 7, v 10", x.plan(7, 10), -1);
        d.due("v -1", x.plan(0, -1), -2);
        d.due("v 10", x.plan(6, 10), -2);
        d.due("none came", x.count(0), 0);
        int[] kinds = {6, 0, 5, 1, 4, 3};
        for (int i = 0; i < 6; i++) {
            d.due("plan " + i, x.plan(kinds[i], i == 5 ? 9 : i), i);
        }
        d.due("full", x.plan(0, 0), -4);
        d.due("kind ahead of full", x.plan(7, 0), -1);
        d.due("v ahead of full", x.plan(0, 10), -2);
        d.due("six", x.count(0), 6);
        d.due("kind of 2", x.of(2, 0), 5);
        d.due("v of 5", x.of(5, 1), 9);
    }

    private static void of() {
        d.part("3 of");
        NoneSees x = new NoneSees();
        x.plan(Due.HORSE, 8);
        x.plan(Due.MAN, 3);
        d.due("kind", x.of(0, 0), 5);
        d.due("v", x.of(0, 1), 8);
        d.due("men", x.of(0, 2), 0);
        Due.setAll(x, 0, 1, 2);
        Due.setAll(x, 1, 9);
        d.due("two men", x.of(0, 2), 2);
        d.due("one man", x.of(1, 2), 1);
        x.take(1);
        d.due("one taken", x.of(0, 2), 1);
        d.due("plan -1", x.of(-1, 0), -1);
        d.due("plan 2", x.of(2, 0), -1);
        d.due("what -1", x.of(0, -1), -1);
        d.due("what 3", x.of(0, 3), -1);
    }

    private static void row() {
        d.part("4 row");
        NoneSees x = new NoneSees();
        x.plan(Due.TOLD, 0);
        x.plan(Due.KING, 0);
        x.plan(Due.TOLD, 0);
        d.due("plan", x.row(3, 0, 0), -1);
        d.due("plan -1", x.row(-1, 0, 0), -1);
        d.due("part -1", x.row(0, -1, 0), -1);
        d.due("part 8", x.row(0, 8, 2), -1);
        d.due("n 2", x.row(0, 0, 2), -2);
        d.due("n -1", x.row(0, 0, -1), -2);
        d.due("n ahead of state", x.row(1, 0, 2), -2);
        d.due("part ahead of state", x.row(1, 8, 0), -1);
        d.due("a king", x.row(1, 0, 0), -3);
        for (int part = 0; part < 8; part++) {
            d.due("was 1", x.row(0, part, 0), 1);
            d.due("was 0", x.row(0, part, 0), 0);
        }
        d.due("sees none", x.sees(0, 5), 0);
        d.due("the other one sees all", x.sees(2, 5), x.sees(1, 5));
        int[] ways = {6, 9, 4, 1, 10, 8, 0, 2};
        for (int part = 0; part < 8; part++) {
            d.due("was 0", x.row(0, part, 1), 0);
            d.due("way " + part, x.sees(0, 5), Due.bits(ways[part]));
            d.due("was 1", x.row(0, part, 0), 1);
        }
        x.row(0, 1, 1);
        x.row(0, 1, 1);
        x.row(0, 4, 1);
        d.due("two ways", x.sees(0, 5), Due.bits(9, 10));
    }

    private static void feed() {
        d.part("5 feed");
        NoneSees x = new NoneSees();
        d.due("-1", x.feed(-1), -2);
        d.due("128", x.feed(128), -2);
        d.due("0", x.feed(0), 1);
        for (int i = 2; i <= 100; i++) {
            d.due("sign " + i, x.feed(127), i);
        }
        d.due("full", x.feed(1), -4);
        d.due("bad ahead of full", x.feed(128), -2);
        d.due("a hundred", x.count(5), 100);
        d.due("all stood in it", x.yard(), -10);
        d.due("empty then", x.feed('a'), 1);
    }

    private static void yardNumbers() {
        d.part("6 yard's number");
        NoneSees x = new NoneSees();
        x.plan(Due.MAN, 0);
        Due.setAll(x, 0, 3);
        x.aim(1);
        x.see(1, 1);
        x.book(1);
        d.due("fault", Due.yard(x, "wide 3;"), -17);
        d.due("the text went", x.count(5), 0);
        d.due("men stay", x.told(5), 8);
        d.due("aim stays", x.count(2) + x.count(3) + x.count(4), 3);
        d.due("wide stays", x.told(0), 4);
        for (int i = 0; i < 6; i++) {
            d.due("yard", Due.yard(x, "wide " + (2 + i % 3)), i);
            d.due("holds", x.told(0), 2 + i % 3);
            d.due("count", x.count(1), i + 1);
            d.due("men went", x.told(5), 0);
            d.due("all told went", x.count(2) + x.count(3) + x.count(4), 0);
            Due.setAll(x, 0, 3);
            x.aim(1);
            x.see(1, 1);
            x.book(1);
        }
        d.due("plans stay", x.count(0), 1);
        Due.feed(x, "wade");
        d.due("full", x.yard(), -4);
        d.due("the text stays", x.count(5), 4);
        d.due("men stay", x.told(5), 8);
        d.due("the last holds", x.told(0), 4);
    }

    private static void fault(String text, int place) {
        NoneSees x = new NoneSees();
        d.due(text, Due.yard(x, text), place < 0 ? 0 : -10 - place);
        d.due(text + ": empty then", x.count(5), 0);
        d.due(text + ": yards", x.count(1), place < 0 ? 1 : 0);
    }

    private static void yardFaults() {
        d.part("6 fault");
        String[] ends = {"", "w", "wide", "wide ", "roun", "fla", "wide 3;", "flat;bar", "hole ", "hole x", "hole x=",
            "hole x=1&", "hole x=1|", "hole !", "hole (x=1", "hole (", "hole ((x=1)", "hole x=1&!("};
        for (String text : ends) {
            fault(text, text.length());
        }
        fault("wide x", 5);
        fault("wide 3x", 6);
        fault("wide 123", 7);
        fault("wide  3", 5);
        fault("wide3", 4);
        fault(" wide 3", 0);
        fault("Wide 3", 0);
        fault("wade 3", 1);
        fault("rounds", 5);
        fault("round ", 5);
        fault("flat,round", 4);
        fault("flat; round", 5);
        fault("wide 3;;", 7);
        fault(";flat", 0);
        fault("hole x==1", 7);
        fault("hole x1", 6);
        fault("hole x= 1", 7);
        fault("hole x=1 &y=1", 8);
        fault("hole x=123", 9);
        fault("hole x=1)", 8);
        fault("hole x=1x=1", 8);
        fault("hole x=1&&y=1", 9);
        fault("hole x=1||y=1", 9);
        fault("hole (x=1;flat", 9);
        fault("hole ()", 6);
        fault("hole 1=1", 5);
        fault("bar q=1", 4);
        fault("bar X=1", 4);
        fault("bar x!1", 5);
        fault("hole (((((x=1)))))", 9);
        fault("hole !!!!!x=1", 9);
        fault("bar (((((x=1)))))", 8);
        fault("bar x=1|!!!!!x=1", 12);
        fault("hole !(!(!x=1))", 9);
        fault("hole (!(!(x=1)))", 9);
        fault("hole (x=1|((((y=1))))", 13);
        fault("wide " + (char) 0, 5);
        fault("flat" + (char) 0, 4);
        fault("hole x=1" + (char) 0 + "flat", 8);
        for (String text : new String[] {"wide 3", "wide 33", "round", "flat", "hole ((((x=1))))", "hole !!!!x=1",
            "hole !(!(x=1))", "bar (((x=1)))&((((x=1))))|!!!!y<22", "bar !x=1&!!!!x=1", "bar (!!!x=1|(((y=1))))"}) {
            fault(text, -1);
        }
        String ten = "flat" + ";flat".repeat(9);
        fault(ten, -1);
        fault(ten + ";", 49);
        fault(ten + ";flat", 49);
        fault(ten.substring(5) + ";hole d=0", -1);
        fault("bar " + "x=1|".repeat(23) + "x=11", -1);
        fault("bar " + "x=1&".repeat(24), 100);
    }

    private static void barred(String text, int... squares) {
        d.due(text, Due.on("wide 3;bar " + text).told(4), Due.bits(squares));
    }

    private static void yardTests() {
        d.part("6 tests");
        barred("x=1", 1, 4, 7);
        barred("x<1", 0, 3, 6);
        barred("x>0", 1, 2, 4, 5, 7, 8);
        barred("y=1", 3, 4, 5);
        barred("y>1", 6, 7, 8);
        barred("s<2", 0, 1, 3);
        barred("s=4", 8);
        barred("d>1", 2, 6);
        barred("d=0", 0, 4, 8);
        barred("n=4", 4);
        barred("n>06", 7, 8);
        barred("n=10");
        barred("w=3", 0, 1, 2, 3, 4, 5, 6, 7, 8);
        barred("w<3");
        barred("w>02", 0, 1, 2, 3, 4, 5, 6, 7, 8);
        barred("x=0|x=1&y=1", 0, 3, 6, 4);
        barred("x=1&y=1|x=0", 0, 3, 6, 4);
        barred("(x=0|x=1)&y=1", 3, 4);
        barred("y=1&(x=0|x=1)", 3, 4);
        barred("!x=0&y=0", 1, 2);
        barred("!(x=0&y=0)", 1, 2, 3, 4, 5, 6, 7, 8);
        barred("!!x=0", 0, 3, 6);
        barred("!(!(x=0|y=0))", 0, 1, 2, 3, 6);
        barred("x=0&y=0|x=1&y=1|x=2&y=2", 0, 4, 8);
        barred("!x=0&!x=1&!y=0", 5, 8);
    }

    private static void yardClauses() {
        d.part("6 clauses");
        int[] told = {0, 2, 1, 2, 2, 2, 3, 3, 4, 4, 5, 5, 6, 5, 99, 5};
        for (int i = 0; i < told.length; i += 2) {
            d.due("wide " + told[i], Due.on("wide " + told[i]).told(0), told[i + 1]);
        }
        d.due("the last wide", Due.on("wide 5;wide 03").told(0), 3);
        d.due("no wide", Due.on("flat").told(0), 4);
        d.due("tests by the last wide", Due.on("wide 2;bar w=5;wide 5").told(4), (1 << 25) - 1);
        d.due("number by the last wide", Due.on("bar n=24&x=4;wide 5").told(4), 1 << 24);
        d.due("no wide, tests by 4", Due.on("bar n=15").told(4), 1 << 15);
        d.due("round", Due.on("round").told(1), 1);
        d.due("round, flat", Due.on("round;flat").told(1), 0);
        d.due("flat, round", Due.on("flat;round").told(1), 1);
        d.due("neither", Due.on("wide 3").told(1), 0);
        NoneSees x = Due.on("hole n=0;bar n=2;hole n=5;bar n=0|n=7");
        d.due("holes", x.told(3), Due.bits(0, 5));
        d.due("barred", x.told(4), Due.bits(0, 2, 5, 7));
        d.due("another yard", Due.yard(x, "wide 4"), 1);
        d.due("no holes then", x.told(3) + x.told(4), 0);
    }

    private static void told() {
        d.part("7 told");
        NoneSees x = Due.on("wide 3;round;hole n=4;bar n=8");
        x.plan(Due.ROOK, 0);
        x.plan(Due.MAN, 0);
        Due.setAll(x, 1, 2, 3);
        long[] told = {3, 1, 2, 16, 272, 12, 1};
        for (int what = 0; what < told.length; what++) {
            d.due("told " + what, x.told(what), told[what]);
        }
        Due.setAll(x, 0, 0);
        d.due("no peace", x.told(6), 0);
        d.due("men", x.told(2), 3);
        d.due("where", x.told(5), 13);
        d.due("-1", x.told(-1), -1);
        d.due("7", x.told(7), -1);
    }

    private static void set() {
        d.part("8 set");
        NoneSees x = Due.on("wide 3;hole n=4;bar n=8");
        x.plan(Due.MAN, 0);
        x.plan(Due.ROOK, 0);
        d.due("plan 2", x.set(2, 0), -1);
        d.due("plan -1", x.set(-1, 0), -1);
        d.due("square -1", x.set(0, -1), -1);
        d.due("square 9", x.set(0, 9), -1);
        d.due("hole", x.set(0, 4), -3);
        d.due("barred", x.set(0, 8), -3);
        d.due("nobody came", x.told(2), 0);
        d.due("fits", x.set(0, 0), 1);
        d.due("a man there", x.set(1, 0), -3);
        d.due("the same man", x.at(0, 0), 0);
        d.due("sees a man", x.set(1, 1), 0);
        d.due("is set all the same", x.at(1, 0), 1);
        d.due("is seen by a man", x.set(0, 2), 0);
        d.due("behind the hole", x.set(0, 7), 1);
        d.due("plan ahead of state", x.set(5, 4), -1);
    }

    private static void take() {
        d.part("9 take");
        NoneSees x = new NoneSees();
        x.plan(Due.MAN, 0);
        x.plan(Due.KING, 0);
        Due.setAll(x, 1, 15);
        Due.setAll(x, 0, 0);
        d.due("square -1", x.take(-1), -1);
        d.due("square 16", x.take(16), -1);
        d.due("nobody", x.take(1), -3);
        d.due("king", x.take(15), 1);
        d.due("nobody now", x.take(15), -3);
        d.due("man", x.take(0), 0);
        d.due("all gone", x.told(2), 0);
    }

    private static void at() {
        d.part("10 at");
        NoneSees x = new NoneSees();
        x.plan(Due.KING, 0);
        x.plan(Due.ROOK, 0);
        Due.setAll(x, 0, 0);
        Due.setAll(x, 1, 5, 7);
        d.due("square -1", x.at(-1, 0), -1);
        d.due("square 16", x.at(16, 0), -1);
        d.due("what -1", x.at(0, -1), -1);
        d.due("what 3", x.at(0, 3), -1);
        d.due("plan", x.at(0, 0), 0);
        d.due("plan", x.at(7, 0), 1);
        d.due("no plan", x.at(1, 0), -5);
        d.due("seen by king and rook", x.at(1, 1), 2);
        d.due("rooks, king", x.at(5, 1), 2);
        d.due("seen by both rooks", x.at(6, 1), 2);
        d.due("not by itself", x.at(0, 1), 0);
        d.due("by none", x.at(12, 1), 0);
        d.due("what it sees", x.at(0, 2), Due.bits(1, 4, 5));
        d.due("what none sees", x.at(1, 2), -5);
    }

    private static void seesFlat() {
        d.part("11 sees, flat");
        NoneSees x = new NoneSees();
        int[] vs = {0, 0, 0, 0, 0, 4};
        for (int kind = 0; kind < 6; kind++) {
            x.plan(kind, vs[kind]);
        }
        d.due("man", x.sees(0, 5), 0);
        d.due("rook", x.sees(1, 5), Due.bits(4, 6, 7, 1, 9, 13));
        d.due("bishop", x.sees(2, 5), Due.bits(0, 10, 15, 2, 8));
        d.due("king", x.sees(3, 5), Due.bits(0, 1, 2, 4, 6, 8, 9, 10));
        d.due("queen", x.sees(4, 5), x.sees(1, 5) | x.sees(2, 5));
        d.due("horse of 4", x.sees(5, 5), x.sees(2, 5));
        d.due("corner king", x.sees(3, 12), Due.bits(8, 9, 13));
        d.due("plan", x.sees(6, 0), -1);
        d.due("plan -1", x.sees(-1, 0), -1);
        d.due("square 16", x.sees(0, 16), -1);
        d.due("square -1", x.sees(0, -1), -1);
        for (int square = 0; square < 16; square++) {
            if (square != 5) {
                Due.setAll(x, 0, square);
            }
        }
        d.due("men are not in the way", x.sees(1, 5), Due.bits(4, 6, 7, 1, 9, 13));
        NoneSees y = new NoneSees();
        y.plan(Due.HORSE, 5);
        y.plan(Due.HORSE, 9);
        y.plan(Due.TOLD, 9);
        d.due("horse of 5", y.sees(0, 5), Due.bits(3, 11, 12, 14));
        d.due("horse of 9", y.sees(1, 0), Due.bits(6, 9));
        d.due("told", y.sees(2, 0), Due.bits(1, 4, 5));
        Due.yard(y, "wide 5");
        d.due("horse in the middle", y.sees(0, 12), Due.bits(1, 3, 5, 9, 15, 19, 21, 23));
    }

    private static void seesRound() {
        d.part("11 sees, round");
        NoneSees x = Due.on("round");
        int[] vs = {0, 0, 0, 0, 0, 5};
        for (int kind = 0; kind < 6; kind++) {
            x.plan(kind, vs[kind]);
        }
        d.due("man", x.sees(0, 0), 0);
        d.due("rook", x.sees(1, 5), Due.bits(4, 6, 7, 1, 9, 13));
        d.due("bishop", x.sees(2, 0), Due.bits(5, 10, 15, 7, 13));
        d.due("king", x.sees(3, 0), Due.bits(1, 3, 4, 12, 5, 7, 13, 15));
        d.due("horse", x.sees(5, 0), Due.bits(6, 9, 11, 14));
        x.plan(Due.TOLD, 0);
        Due.yard(x, "wide 2;round");
        d.due("rook of 2", x.sees(1, 0), Due.bits(1, 2));
        d.due("bishop of 2", x.sees(2, 0), Due.bits(3));
        d.due("king of 2", x.sees(3, 0), Due.bits(1, 2, 3));
        d.due("horse of 2", x.sees(5, 0), Due.bits(1, 2));
        Due.yard(x, "wide 3;round");
        d.due("horse of 3", x.sees(5, 4), Due.bits(0, 2, 6, 8));
        NoneSees y = Due.on("wide 5;round");
        y.plan(Due.BISHOP, 0);
        y.plan(Due.TOLD, 0);
        d.due("bishop of 5", y.sees(0, 0), Due.bits(6, 12, 18, 24, 9, 13, 17, 21));
        y.row(1, 0, 0);
        y.row(1, 1, 0);
        y.row(1, 3, 0);
        y.row(1, 4, 0);
        d.due("told goes round", y.sees(1, 0), Due.bits(4, 9, 24, 21));
    }

    private static void seesHoles() {
        d.part("11 sees, holes");
        NoneSees x = Due.on("wide 3;hole n=4");
        x.plan(Due.ROOK, 0);
        x.plan(Due.KING, 0);
        x.plan(Due.BISHOP, 0);
        x.plan(Due.HORSE, 9);
        d.due("rook", x.sees(0, 3), Due.bits(0, 6));
        d.due("king", x.sees(1, 0), Due.bits(1, 3));
        d.due("bishop", x.sees(2, 0), 0);
        d.due("horse leaps past it", x.sees(3, 0), Due.bits(5, 7));
        d.due("from the hole", x.sees(0, 4), Due.bits(1, 3, 5, 7));
        Due.yard(x, "wide 3;hole n=4;round");
        d.due("rook goes round", x.sees(0, 3), Due.bits(0, 6, 5));
        d.due("bishop goes round", x.sees(2, 0), Due.bits(8, 5, 7));
        Due.yard(x, "wide 5;hole n=11|n=2;bar n=1");
        d.due("horse sees no hole", x.sees(3, 0), Due.bits(7));
        d.due("a barred one is seen, a hole is not", x.sees(0, 0), Due.bits(1, 5, 10, 15, 20));
        d.due("past a barred one, round", x.sees(0, 10), Due.bits(0, 5, 15, 20));
        Due.yard(x, "wide 5;bar n=12");
        d.due("past a barred one", x.sees(0, 10), Due.bits(11, 12, 13, 14, 0, 5, 15, 20));
    }

    private static void clear() {
        d.part("12 clear");
        NoneSees x = new NoneSees();
        x.plan(Due.MAN, 0);
        d.due("nobody", x.clear(), 0);
        Due.setAll(x, 0, 0, 7, 15);
        x.aim(0);
        x.book(0);
        d.due("three", x.clear(), 3);
        d.due("all gone", x.told(5), 0);
        d.due("the rest stays", x.count(2) + x.count(4), 2);
        d.due("again", x.clear(), 0);
    }
}
