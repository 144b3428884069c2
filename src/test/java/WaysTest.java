/** Promises 13 to 20: who sees most, ways, the most, the fewest, the game. */
public final class WaysTest {
    private static final Due d = new Due();

    public static void main(String[] args) {
        worst();
        ways();
        after();
        most();
        hold();
        more();
        right();
        game();
        d.finish();
    }

    private static NoneSees kinds(String text, int v) {
        NoneSees x = Due.on(text);
        for (int kind = Due.MAN; kind <= Due.HORSE; kind++) {
            x.plan(kind, v);
        }
        return x;
    }

    private static void worst() {
        d.part("13 worst");
        NoneSees x = kinds("wide 5", 9);
        d.due("nobody", x.worst(), -5);
        Due.setAll(x, Due.MAN, 0, 1, 2);
        d.due("at peace", x.worst(), -5);
        x.clear();
        Due.setAll(x, Due.ROOK, 0, 4);
        d.due("the least", x.worst(), 0);
        x.clear();
        // each rook has one other by both, the king two others
        Due.setAll(x, Due.ROOK, 0, 1);
        Due.setAll(x, Due.MAN, 17, 19);
        Due.setAll(x, Due.KING, 18);
        d.due("each counted once", x.worst(), 18);
        x.clear();
        Due.setAll(x, Due.ROOK, 1, 10);
        Due.setAll(x, Due.MAN, 11);
        d.due("who is seen by most", x.worst(), 11);
        x.clear();
        Due.setAll(x, Due.ROOK, 11);
        Due.setAll(x, Due.MAN, 1, 10);
        d.due("who sees most", x.worst(), 11);
        Due.yard(x, "wide 5;hole n=6");
        Due.setAll(x, Due.ROOK, 1, 11);
        d.due("a hole between", x.worst(), -5);
    }

    private static void ways() {
        d.part("14 ways");
        NoneSees x = kinds("wide 4", 9);
        int[] many = {256, 24, 24, 16, 2, 52};
        for (int kind = 0; kind < 6; kind++) {
            d.due("kind " + kind, x.ways(kind, -1), many[kind]);
        }
        int[] queens = {1, 3, 0, 2};
        for (int row = 0; row < 4; row++) {
            d.due("row " + row, x.ways(Due.QUEEN, row), queens[row]);
        }
        Due.setAll(x, Due.QUEEN, 0, 5, 10);
        d.due("on an empty board", x.ways(Due.QUEEN, -1), 2);
        d.due("plan", x.ways(6, -1), -1);
        d.due("plan -1", x.ways(-1, 0), -1);
        d.due("row -2", x.ways(0, -2), -1);
        d.due("row 4", x.ways(0, 4), -1);
        Due.yard(x, "wide 3");
        d.due("row 3", x.ways(0, 3), -1);
        d.due("no queens on 3", x.ways(Due.QUEEN, -1), 0);
        d.due("no row", x.ways(Due.QUEEN, 2), -5);
        Due.yard(x, "wide 4;bar n=1");
        d.due("one queens' way is barred", x.ways(Due.QUEEN, -1), 1);
        d.due("the other one", x.ways(Due.QUEEN, 0), 2);
        Due.yard(x, "wide 4;bar y=2");
        d.due("a barred row", x.ways(Due.MAN, -1), 0);
        Due.yard(x, "wide 5;round");
        d.due("queens of 5 go round", x.ways(Due.QUEEN, -1), 10);
        d.due("first", x.ways(Due.QUEEN, 1), 2);
        NoneSees y = Due.on("wide 2");
        y.plan(Due.TOLD, 0);
        y.row(0, 0, 0);
        y.row(0, 4, 0);
        y.row(0, 5, 0);
        y.row(0, 6, 0);
        y.row(0, 7, 0);
        y.row(0, 3, 0);
        d.due("one sees the other, aslant no one", y.ways(0, -1), 2);
        d.due("row 1 of the first", y.ways(0, 1), 1);
    }

    private static void after() {
        d.part("15 after");
        NoneSees x = kinds("wide 4", 9);
        d.due("nobody", x.after(Due.QUEEN, 0), -9);
        d.due("plan first", x.after(6, 0), -1);
        d.due("plan -1", x.after(-1, 0), -1);
        d.due("row -1", x.after(Due.QUEEN, -1), -1);
        d.due("row 4", x.after(Due.QUEEN, 4), -1);
        Due.setAll(x, Due.MAN, 0, 4, 8);
        d.due("a row without one", x.after(Due.QUEEN, 0), -9);
        Due.setAll(x, Due.ROOK, 12);
        isAfter(x, 1, 3, 0, 2);
        Due.setAll(x, Due.ROOK, 13);
        d.due("two in a row", x.after(Due.QUEEN, 0), -9);
        x.clear();
        Due.setAll(x, Due.KING, 1, 7, 8, 13);
        isAfter(x, 1, 3, 0, 2);
        x.clear();
        Due.setAll(x, Due.KING, 1, 7, 8, 14);
        isAfter(x, 2, 0, 3, 1);
        x.clear();
        Due.setAll(x, Due.QUEEN, 1, 7, 8, 15);
        isAfter(x, 2, 0, 3, 1);
        x.clear();
        Due.setAll(x, Due.QUEEN, 2, 4, 11, 13);
        isAfter(x, -5, -5, -5, -5);
        x.clear();
        Due.setAll(x, Due.MAN, 0, 4, 8, 15);
        d.due("men go on as a number does", x.after(Due.MAN, 2), 1);
        d.due("and begin anew", x.after(Due.MAN, 3), 0);
        x.clear();
        Due.setAll(x, Due.MAN, 3, 7, 11, 15);
        d.due("the last", x.after(Due.MAN, 0), -5);
        d.due("ways are counted as ever", x.ways(Due.QUEEN, -1), 2);
        d.due("from the first on", x.ways(Due.QUEEN, 0), 1);
        Due.yard(x, "wide 2;bar n=1");
        Due.setAll(x, Due.MAN, 0, 2);
        d.due("x of row 0", x.after(Due.MAN, 0), 0);
        d.due("x of row 1", x.after(Due.MAN, 1), 1);
        x.clear();
        Due.setAll(x, Due.MAN, 0, 3);
        d.due("barred", x.after(Due.MAN, 0), -5);
    }

    private static void isAfter(NoneSees x, int... row) {
        for (int y = 0; y < row.length; y++) {
            d.due("row " + y, x.after(Due.QUEEN, y), row[y]);
        }
    }

    private static void most() {
        d.part("16 most");
        NoneSees x = kinds("wide 4", 9);
        int[] four = {16, 4, 6, 4, 4, 8};
        for (int kind = 0; kind < 6; kind++) {
            d.due("kind " + kind, x.most(kind), four[kind]);
        }
        d.due("plan", x.most(6), -1);
        d.due("plan -1", x.most(-1), -1);
        Due.setAll(x, Due.ROOK, 0, 1);
        d.due("on an empty board", x.most(Due.ROOK), 4);
        Due.yard(x, "wide 5");
        int[] five = {25, 5, 8, 9, 5, 13};
        for (int kind = 0; kind < 6; kind++) {
            d.due("kind " + kind, x.most(kind), five[kind]);
        }
        Due.yard(x, "wide 5;round");
        d.due("kings go round", x.most(Due.KING), 5);
        Due.yard(x, "bar n>13");
        d.due("barred", x.most(Due.MAN), 14);
        Due.yard(x, "hole w=4");
        d.due("nowhere", x.most(Due.MAN), 0);
        Due.yard(x, "wide 5;hole x=2|y=2");
        d.due("rooks past holes", x.most(Due.ROOK), 8);
        NoneSees y = Due.on("wide 5;round");
        y.plan(Due.TOLD, 0);
        for (int way = 1; way < 8; way++) {
            y.row(0, way, 0);
        }
        d.due("rings of five", y.most(0), 10);
        NoneSees z = Due.on("wide 5;round");
        z.plan(Due.HORSE, 9);
        d.due("horses go round", z.most(0), 5);
    }

    private static void hold() {
        d.part("17 hold");
        NoneSees x = kinds("wide 4", 9);
        int[] many = {-5, 4, 4, 4, 2, 4};
        int[] sets = {-5, 15, 240, 1285, 96, Due.bits(5, 6, 9, 10)};
        for (int kind = 0; kind < 5; kind++) {
            d.due("kind " + kind, x.hold(kind, 0), many[kind]);
            d.due("set of kind " + kind, x.hold(kind, 1), sets[kind]);
        }
        d.due("plan", x.hold(6, 0), -1);
        d.due("plan -1", x.hold(-1, 0), -1);
        d.due("what -1", x.hold(0, -1), -1);
        d.due("what 2", x.hold(0, 2), -1);
        Due.setAll(x, Due.QUEEN, 0, 5);
        d.due("on an empty board", x.hold(Due.QUEEN, 1), 96);
        Due.yard(x, "wide 2");
        d.due("four men", x.hold(Due.MAN, 0), 4);
        d.due("all squares", x.hold(Due.MAN, 1), 15);
        d.due("two rooks", x.hold(Due.ROOK, 0), 2);
        d.due("the least", x.hold(Due.ROOK, 1), 3);
        d.due("one king", x.hold(Due.KING, 1), 1);
        Due.yard(x, "wide 2;bar n=0");
        d.due("barred: another one", x.hold(Due.KING, 1), 2);
        d.due("barred is to be seen all the same", x.hold(Due.MAN, 0), -5);
        Due.yard(x, "wide 2;hole n<3");
        d.due("holes need none", x.hold(Due.MAN, 0), 1);
        d.due("the set", x.hold(Due.MAN, 1), 8);
        Due.yard(x, "wide 2;hole w=2");
        d.due("none can be set", x.hold(Due.MAN, 0), -5);
        Due.yard(x, "wide 3;hole n>3");
        d.due("four do", x.hold(Due.MAN, 0), 4);
        NoneSees y = kinds("wide 3;hole n>4", 0);
        d.due("five are too many", y.hold(Due.MAN, 0), -5);
        d.due("no set", y.hold(Due.MAN, 1), -5);
        Due.yard(y, "wide 3");
        d.due("king in the middle", y.hold(Due.KING, 1), 16);
    }

    private static void more() {
        d.part("18 more");
        NoneSees x = kinds("wide 4;bar n=15;hole n=9", 9);
        d.due("all that are not barred", x.more(Due.MAN), 0x7DFF);
        Due.setAll(x, Due.ROOK, 5);
        d.due("not on a man, not seen", x.more(Due.MAN), Due.bits(0, 2, 3, 8, 10, 11, 12, 13, 14));
        d.due("nor seeing", x.more(Due.KING), Due.bits(3, 11, 12, 13, 14));
        d.due("plan", x.more(6), -1);
        d.due("plan -1", x.more(-1), -1);
        d.due("nothing changed", x.told(2), 1);
    }

    private static void right() {
        d.part("19 right");
        NoneSees x = kinds("wide 5", 9);
        x.clear();
        d.due("nobody", x.right(0), 0);
        d.due("no set", x.right(1), 0);
        d.due("what -1", x.right(-1), -1);
        d.due("what 2", x.right(2), -1);
        Due.setAll(x, Due.ROOK, 0, 4);
        d.due("one of two", x.right(0), 1);
        d.due("the least", x.right(1), 1);
        Due.setAll(x, Due.ROOK, 24);
        d.due("who sees both", x.right(0), 1);
        d.due("he", x.right(1), 16);
        x.clear();
        Due.setAll(x, Due.KING, 0, 2, 10, 12);
        Due.setAll(x, Due.MAN, 1, 3, 11, 13);
        d.due("two men hold the kings' lines", x.right(0), 4);
        d.due("the least of them", x.right(1), Due.bits(0, 2, 10, 12));
        NoneSees y = Due.on("wide 5");
        y.plan(Due.TOLD, 0);
        y.plan(Due.MAN, 0);
        for (int way = 1; way < 8; way++) {
            y.row(0, way, 0);
        }
        for (int row = 0; row < 5; row++) {
            Due.setAll(y, 0, row * 5 + 2);
            Due.setAll(y, 1, row * 5 + 3);
            d.due("pairs " + row, y.right(0), row < 4 ? row + 1 : -5);
        }
        d.due("no set", y.right(1), -5);
        y.take(23);
        d.due("four", y.right(1), Due.bits(2, 7, 12, 17));
        threeMenInRows(y);
    }

    /** In each of a few rows a man in the middle sees the one beside him and is seen by the other. */
    private static void threeMenInRows(NoneSees y) {
        y.clear();
        for (int row = 0; row < 4; row++) {
            Due.setAll(y, 0, row * 5 + 1, row * 5 + 2);
            Due.setAll(y, 1, row * 5 + 3);
            d.due("middles " + row, y.right(0), row + 1);
        }
        d.due("the middles", y.right(1), Due.bits(2, 7, 12, 17));
        y.clear();
        // a ring of five: three of them must go, the least three by whom each pair is broken
        Due.yard(y, "wide 5;round");
        Due.setAll(y, 0, 5, 6, 7, 8, 9);
        d.due("a ring", y.right(0), 3);
        d.due("the least of the ring", y.right(1), Due.bits(5, 6, 8));
    }

    private static void game() {
        d.part("20 game");
        NoneSees x = kinds("wide 4", 9);
        d.due("plan", x.game(6), -1);
        d.due("plan -1", x.game(-1), -1);
        d.due("more than nine", x.game(Due.MAN), -9);
        Due.setAll(x, Due.MAN, 0, 1, 2, 3, 4, 5);
        d.due("ten", x.game(Due.MAN), -9);
        Due.setAll(x, Due.MAN, 6);
        d.due("nine men: one after another", x.game(Due.MAN), 1);
        Due.setAll(x, Due.MAN, 7);
        d.due("eight men", x.game(Due.MAN), 0);
        d.due("nothing changed", x.told(2), 8);
        Due.yard(x, "wide 3");
        d.due("three rooks", x.game(Due.ROOK), 1);
        d.due("a king in the middle", x.game(Due.KING), 1);
        Due.yard(x, "wide 2");
        d.due("two rooks", x.game(Due.ROOK), 0);
        d.due("one king", x.game(Due.KING), 1);
        Due.setAll(x, Due.KING, 0);
        d.due("no square is left", x.game(Due.KING), 0);
        Due.yard(x, "wide 5;bar y>0");
        // five in a row, a king shuts his neighbours: the one in the middle leaves two apart
        d.due("a row of five", x.game(Due.KING), 1);
        Due.yard(x, "wide 4;bar y>0");
        d.due("a row of four", x.game(Due.KING), 0);
        Due.yard(x, "wide 5;bar y>0;hole n=2");
        d.due("two and two", x.game(Due.KING), 0);
    }
}
