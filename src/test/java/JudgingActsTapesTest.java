/** Promises 31 to 41: judging, the image, acts, tapes. */
public final class JudgingActsTapesTest {
    private static final Due d = new Due();
    private static final int BYTES = 0, SHORTS = 1, INTS = 2, LONGS = 3, BOOLEANS = 4;

    public static void main(String[] args) {
        judge();
        image();
        undo();
        actsOfEachKind();
        actWraps();
        trace();
        taken();
        count();
        tape();
        item();
        read();
        shift();
        d.finish();
    }

    private static void judge() {
        d.part("31 judge");
        NoneSees x = Due.on("wide 2");
        x.plan(Due.MAN, 0);
        Due.setAll(x, 0, 1, 2);
        d.due("tape -1", x.judge(-1, 0), -1);
        d.due("tape 6", x.judge(6, 0), -1);
        d.due("nothing there", x.judge(0, 0), 100);
        for (int sort = BYTES; sort <= LONGS; sort++) {
            x.tape(0, sort, 4);
            d.due("another sort", x.judge(0, 0), -12);
            d.due("another sort, below 0", x.judge(0, -1), -12);
        }
        x.tape(0, BOOLEANS, 6);
        d.due("below 0", x.judge(0, -1), 100);
        d.due("least", x.judge(0, Integer.MIN_VALUE), 100);
        d.due("most", x.judge(0, Integer.MAX_VALUE), 100);
        d.due("behind the end", x.judge(0, 6), 100);
        d.due("the first man is not told", x.judge(0, 0), 1);
        x.item(0, 1, 1);
        d.due("the second", x.judge(0, 0), 2);
        x.item(0, 2, 9);
        d.due("all is so", x.judge(0, 0), -5);
        x.item(0, 3, 1);
        d.due("nobody on 3", x.judge(0, 0), 3);
        d.due("from place 1", x.judge(0, 1), 0);
        x.item(0, 3, 0);
        x.item(0, 4, 1);
        d.due("from place 3, the row ends", x.judge(0, 3), 2);
        x.item(0, 5, 1);
        d.due("three looked at", x.judge(0, 3), 103);
        d.due("from place 4", x.judge(0, 4), 0);
        x.item(0, 5, 0);
        d.due("one looked at", x.judge(0, 5), 101);
        x.tape(0, BOOLEANS, 3);
        x.item(0, 1, 1);
        d.due("the first otherwise ahead of the end", x.judge(0, 0), 2);
        x.item(0, 2, 1);
        d.due("all three", x.judge(0, 0), 103);
        x.tape(0, BOOLEANS, 0);
        d.due("an empty row", x.judge(0, 0), 100);
        x.tape(0, BOOLEANS, 60);
        x.clear();
        d.due("up to the end", x.judge(0, 56), -5);
        d.due("one too few", x.judge(0, 57), 103);
        Due.yard(x, "wide 3");
        Due.setAll(x, 0, 8);
        d.due("the last square", x.judge(0, 0), 8);
        x.item(0, 8, 1);
        d.due("all nine", x.judge(0, 0), -5);
        d.due("the first of nine", x.judge(0, 8), 0);
        d.due("eight", x.judge(0, 52), 108);
    }

    private static NoneSees full() {
        NoneSees x = Due.on("wide 3;round;hole n=4;bar n=5");
        x.plan(Due.MAN, 1);
        x.plan(Due.TOLD, 2);
        x.row(1, 3, 0);
        Due.setAll(x, 1, 0, 8);
        x.aim(7);
        x.see(6, 1);
        x.see(7, 2);
        x.book(1);
        x.book(0);
        return x;
    }

    private static void image() {
        d.part("32 image");
        NoneSees x = new NoneSees();
        d.due("no plans", x.image(), 0);
        x.plan(0, 0);
        x.plan(3, 0);
        d.due("two plans", x.image(), 2);
        d.due("nothing changed", x.count(0), 2);
        x.set(0, 0);
        d.due("a newer one", x.image(), 2);
        x.clear();
        x.undo();
        d.due("the newest counts", x.told(5), 1);
    }

    private static void undo() {
        d.part("33 undo");
        NoneSees x = new NoneSees();
        d.due("no image", x.undo(), -3);
        x = full();
        x.image();
        long rubbed = x.rubbed(0);
        Due.feed(x, "wide 5");
        x.yard();
        Due.feed(x, "ba");
        x.row(1, 3, 1);
        x.row(1, 4, 0);
        x.plan(5, 5);
        Due.setAll(x, 2, 20);
        x.tape(0, BYTES, 5);
        x.act(0, 1, 4);
        for (int i = 0; i < 2; i++) {
            d.due("undone", x.undo(), 2);
            d.due("plans", x.count(0), 2);
            d.due("yards stay", x.count(1), 2);
            d.due("the text stays", x.count(5), 2);
            d.due("the trace stays", x.count(6), 2);
            d.due("tapes stay", x.read(0, 4), 0);
            long[] told = {3, 1, 2, 16, 48, 257};
            for (int what = 0; what < told.length; what++) {
                d.due("told " + what, x.told(what), told[what]);
            }
            d.due("row, way 3", x.row(1, 3, 0), 0);
            d.due("row, way 4", x.row(1, 4, 1), 1);
            d.due("kind", x.of(1, 0), 6);
            d.due("v", x.of(1, 1), 2);
            d.due("men of 1", x.of(1, 2), 2);
            d.due("aim", x.aim(7), -2);
            d.due("seen", x.count(3), 2);
            d.due("seen as told", x.rubbed(0), rubbed);
            d.due("book", x.count(4), 2);
            d.due("looked", x.looked(), 0);
            x.clear();
            x.aim(-1);
            x.see(-1, 0);
            x.see(0, 0);
            x.book(-1);
            x.book(5);
            x.row(1, 7, 0);
            x.plan(0, 0);
        }
        d.due("the next yard's number", Due.yard(x, "r y=0"), 2);
        d.due("it holds", x.told(4), 15);
        d.due("undone", x.undo(), 2);
        d.due("the first yard holds", x.told(4), 48);
        NoneSees z = new NoneSees();
        z.image();
        z.plan(6, 1);
        z.row(0, 2, 0);
        d.due("no plans", z.undo(), 0);
        z.plan(6, 8);
        d.due("another v", z.of(0, 1), 8);
        d.due("its own row", z.row(0, 2, 1), 1);
        NoneSees y = new NoneSees();
        y.image();
        Due.yard(y, "wide 2");
        d.due("without a yard", y.undo(), 0);
        d.due("wide 4", y.told(0), 4);
        d.due("yards", y.count(1), 1);
    }

    /** An act's answer, how many bodies ran, and which. */
    private static void isAct(NoneSees x, int plan, int act, int n, int answer, int... bodies) {
        String call = "act(" + plan + ", " + act + ", " + n + ")";
        d.due(call, x.act(plan, act, n), answer);
        d.due(call + " many", x.count(6), bodies.length);
        for (int i = 0; i < bodies.length; i++) {
            d.due(call + " body " + i, x.trace(i), bodies[i]);
        }
        d.due(call + " end", x.trace(bodies.length), -1);
    }

    private static void actsOfEachKind() {
        d.part("34 act");
        NoneSees x = new NoneSees();
        x.plan(Due.TOLD, 5);
        x.plan(Due.ROOK, 3);
        x.plan(Due.BISHOP, 4);
        x.plan(Due.KING, 6);
        x.plan(Due.QUEEN, 7);
        x.plan(Due.HORSE, 8);
        isAct(x, 1, 0, 10, 11, 10);
        isAct(x, 1, 1, 10, 8 ^ 6, 20, 11, 10);
        isAct(x, 1, 2, 10, (8 ^ 6) * 2, 12, 20, 11, 10);
        isAct(x, 2, 0, 10, 32, 30, 10);
        isAct(x, 2, 1, 10, 28, 11, 30, 10);
        isAct(x, 2, 2, 10, 56, 12, 11, 30, 10);
        isAct(x, 3, 0, 10, 13, 10);
        isAct(x, 3, 1, 10, 7, 11, 10);
        isAct(x, 3, 2, 10, 14 + (4 - 6), 40, 12, 11, 10, 11, 10);
        isAct(x, 4, 0, 10, -14, 50, 10);
        isAct(x, 4, 1, 10, (-15 - 7) ^ 6, 51, 20, 11, 50, 10);
        isAct(x, 4, 2, 10, ((-15 - 7) ^ 6) * 2, 12, 51, 20, 11, 50, 10);
        isAct(x, 5, 0, 10, 35, 30, 10);
        isAct(x, 5, 1, 10, 27, 11, 30, 10);
        isAct(x, 5, 2, 10, ((5 * 3 + 5) - 8) * 2, 60, 12, 11, 30, 10);
        isAct(x, 0, 0, 10, 10 ^ 5, 71, 10);
        isAct(x, 0, 1, 10, (10 ^ 5) - 5 + 2, 70, 11, 71, 10, 10);
        isAct(x, 0, 2, 10, ((10 ^ 5) - 5 + 2) * 2 + (1 ^ 5) - 5 + 2,
            40, 12, 70, 11, 71, 10, 10, 70, 11, 71, 10, 10);
        NoneSees y = new NoneSees();
        y.plan(Due.ROOK, 0);
        y.plan(Due.MAN, 9);
        isAct(y, 1, 0, -4, -3, 10);
        isAct(y, 1, 1, -4, -12, 11, 10);
        isAct(y, 1, 2, -4, -24, 12, 11, 10);
        isAct(y, 2, 2, 1, 0);
        isAct(y, 1, 2, -4, -24, 12, 11, 10);
        isAct(y, -1, 0, 1, 0);
        isAct(y, 0, 0, 1, 1, 10);
        isAct(y, 0, 3, 1, 0);
        isAct(y, 0, 0, 1, 1, 10);
        isAct(y, 0, -1, 1, 0);
    }

    private static void actWraps() {
        d.part("34 act wraps");
        NoneSees x = new NoneSees();
        x.plan(Due.QUEEN, 0);
        x.plan(Due.HORSE, 9);
        d.due("-least", x.act(0, 0, Integer.MIN_VALUE), Integer.MIN_VALUE);
        d.due("most + 1", x.act(0, 1, Integer.MAX_VALUE), Integer.MIN_VALUE ^ 6);
        d.due("thrice", x.act(1, 0, 1 << 30), 3 * (1 << 30) + 1);
        d.due("less 1", x.act(1, 2, Integer.MIN_VALUE), (Integer.MAX_VALUE * 3 + 1 - 9) * 2);
    }

    private static void trace() {
        d.part("35 trace");
        NoneSees x = new NoneSees();
        x.plan(Due.TOLD, 0);
        d.due("none yet", x.trace(0), -1);
        x.act(0, 2, 0);
        d.due("-1", x.trace(-1), -1);
        d.due("first", x.trace(0), 40);
        d.due("last", x.trace(11), 10);
        d.due("behind", x.trace(12), -1);
        d.due("twenty", x.trace(20), -1);
        x.told(0);
        x.sees(0, 0);
        d.due("still the latest act's", x.trace(1), 12);
        x.act(0, 0, 0);
        d.due("another act", x.trace(0), 71);
        d.due("shorter", x.trace(2), -1);
        x.act(9, 0, 0);
        d.due("no plan, no trace", x.trace(0), -1);
        d.due("none ran", x.count(6), 0);
    }

    private static void taken() {
        d.part("36 taken");
        NoneSees x = new NoneSees();
        x.plan(Due.MAN, 0);
        x.plan(Due.ROOK, 0);
        x.plan(Due.BISHOP, 0);
        x.plan(Due.KING, 0);
        x.plan(Due.QUEEN, 0);
        x.plan(Due.HORSE, 0);
        String[] under = {"0", "10", "20", "30", "410", "520"};
        for (int plan = 0; plan < 6; plan++) {
            for (int k = 0; k < 7; k++) {
                boolean is = under[plan].indexOf('0' + k) >= 0;
                d.due("taken(" + plan + ", " + k + ")", x.taken(plan, k), is ? plan : -12);
            }
        }
        NoneSees y = new NoneSees();
        y.plan(Due.TOLD, 0);
        int[] told = {6, -12, -12, 6, -12, -12, 6};
        for (int k = 0; k < 7; k++) {
            d.due("told for " + k, y.taken(0, k), told[k]);
        }
        d.due("k -1", y.taken(0, -1), -2);
        d.due("k 7", y.taken(0, 7), -2);
        d.due("k ahead of plan", y.taken(1, 7), -2);
        d.due("plan 1", y.taken(1, 0), -11);
        d.due("plan -1", y.taken(-1, 0), -11);
    }

    private static void count() {
        d.part("37 count");
        NoneSees x = full();
        Due.feed(x, "wide");
        x.act(1, 1, 0);
        int[] many = {2, 1, 1, 2, 2, 4, 5};
        for (int what = 0; what < many.length; what++) {
            d.due("count " + what, x.count(what), many[what]);
        }
        d.due("-1", x.count(-1), -2);
        d.due("7", x.count(7), -2);
    }

    private static void tape() {
        d.part("38 tape");
        NoneSees x = new NoneSees();
        d.due("tape -1", x.tape(-1, 0, 1), -1);
        d.due("tape 6", x.tape(6, 9, 1), -1);
        d.due("sort -2", x.tape(0, -2, 1), -2);
        d.due("sort 5", x.tape(0, 5, 1), -2);
        d.due("sort ahead of size", x.tape(0, 5, -1), -2);
        d.due("61", x.tape(0, 0, 61), -2);
        d.due("below 0", x.tape(0, 0, -1), -14);
        d.due("nothing came", x.read(0, 0), NoneSees.NO);
        for (int sort = BYTES; sort <= BOOLEANS; sort++) {
            d.due("sixty", x.tape(sort, sort, 60), 1);
            d.due("all 0", x.read(sort, 59), 0);
            d.due("no more", x.read(sort, 60), NoneSees.NO);
        }
        x.item(3, 0, 7);
        d.due("anew", x.tape(3, LONGS, 2), 1);
        d.due("all 0 again", x.read(3, 0), 0);
        d.due("two", x.read(3, 2), NoneSees.NO);
        d.due("refused", x.tape(3, LONGS, 61), -2);
        d.due("still there", x.read(3, 1), 0);
        d.due("an empty row", x.tape(3, INTS, 0), 1);
        d.due("it is a row", x.item(3, 0, 0), -13);
        x.item(1, 0, 5);
        x.item(4, 59, 5);
        x.tape(0, INTS, 60);
        x.tape(5, INTS, 60);
        d.due("the one behind stays", x.read(1, 0), 5);
        d.due("the one before stays", x.read(4, 59), 1);
        d.due("nothing, n below 0", x.tape(3, -1, -7), 1);
        d.due("nothing", x.item(3, 0, 0), -11);
        d.due("nothing, n above 60", x.tape(3, -1, 61), 1);
        d.due("tape ahead of it", x.tape(6, -1, 0), -1);
    }

    private static void item() {
        d.part("39 item");
        NoneSees x = new NoneSees();
        d.due("tape -1", x.item(-1, 0, 0), -1);
        d.due("tape 6", x.item(6, 0, 0), -1);
        d.due("nothing", x.item(0, -1, 0), -11);
        x.tape(0, BYTES, 3);
        d.due("place -1", x.item(0, -1, 0), -13);
        d.due("place 3", x.item(0, 3, 0), -13);
        long[] values = {0, 1, -1, 127, 128, 255, 256, 32767, 32768, 65536, 1L << 31, 1L << 32, Long.MAX_VALUE,
            Long.MIN_VALUE, -9999999999L};
        for (int sort = BYTES; sort <= BOOLEANS; sort++) {
            x.tape(0, sort, 3);
            for (long v : values) {
                long[] want = {(byte) v, (short) v, (int) v, v, v == 0 ? 0 : 1};
                d.due("put", x.item(0, 1, v), 1);
                d.due("sort " + sort + ", " + v, x.read(0, 1), want[sort]);
                d.due("the others stay", x.read(0, 0) + x.read(0, 2), 0);
            }
        }
    }

    private static void read() {
        d.part("40 read");
        NoneSees x = new NoneSees();
        d.due("tape -1", x.read(-1, 0), NoneSees.NO);
        d.due("tape 6", x.read(6, 0), NoneSees.NO);
        d.due("nothing", x.read(2, 0), NoneSees.NO);
        x.tape(2, INTS, 2);
        x.item(2, 1, -8);
        d.due("place -1", x.read(2, -1), NoneSees.NO);
        d.due("place 2", x.read(2, 2), NoneSees.NO);
        d.due("place 1", x.read(2, 1), -8);
        d.due("its neighbours have nothing", x.read(1, 0), NoneSees.NO);
        x.tape(2, -1, 0);
        d.due("nothing again", x.read(2, 1), NoneSees.NO);
        d.due("nothing at 0", x.read(2, 0), NoneSees.NO);
    }

    private static void isRow(NoneSees x, int tape, int... items) {
        for (int i = 0; i < items.length; i++) {
            d.due("tape " + tape + " item " + i, x.read(tape, i), items[i]);
        }
    }

    private static void shift() {
        d.part("41 shift");
        NoneSees x = new NoneSees();
        d.due("tape -1", x.shift(-1, 0, 0, 0, 0), -1);
        d.due("tape 6", x.shift(0, 0, 6, 0, 0), -1);
        x.tape(0, INTS, 5);
        x.tape(1, INTS, 3);
        x.tape(2, LONGS, 5);
        d.due("none ahead of nothing", x.shift(6, 0, 5, 0, 0), -1);
        d.due("nothing to", x.shift(0, 0, 5, 0, -1), -11);
        d.due("nothing from", x.shift(5, 0, 0, 0, 0), -11);
        d.due("unlike", x.shift(0, 0, 2, 0, -1), -12);
        int[][] places = {{-1, 0, 1}, {0, -1, 1}, {0, 0, -1}, {0, 0, 4}, {3, 0, 3}, {0, 1, 3}, {6, 0, 0}, {0, 4, 0},
            {Integer.MAX_VALUE, 0, 1}, {1, 0, Integer.MAX_VALUE}, {0, Integer.MAX_VALUE, 2},
            {Integer.MIN_VALUE, 0, 0}};
        for (int[] p : places) {
            d.due(p[0] + ", " + p[1] + ", " + p[2], x.shift(0, p[0], 1, p[1], p[2]), -13);
        }
        d.due("none at the ends", x.shift(0, 5, 1, 3, 0), 0);
        for (int i = 0; i < 5; i++) {
            x.item(0, i, i + 1);
        }
        d.due("three", x.shift(0, 2, 1, 0, 3), 3);
        isRow(x, 1, 3, 4, 5);
        isRow(x, 0, 1, 2, 3, 4, 5);
        d.due("on, in itself", x.shift(0, 0, 0, 1, 4), 4);
        isRow(x, 0, 1, 1, 2, 3, 4);
        d.due("back, in itself", x.shift(0, 1, 0, 0, 4), 4);
        isRow(x, 0, 1, 2, 3, 4, 4);
        d.due("one", x.shift(1, 2, 0, 2, 1), 1);
        isRow(x, 0, 1, 2, 5, 4, 4);
    }
}
