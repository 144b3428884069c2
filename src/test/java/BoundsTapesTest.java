/** Promises 38 to 41, each sentence that names a boundary by itself: tapes. */
public final class BoundsTapesTest {
    private static final Due d = new Due();
    private static final int MIN = Integer.MIN_VALUE, MAX = Integer.MAX_VALUE;
    private static final int BYTES = 0, SHORTS = 1, INTS = 2, LONGS = 3, BOOLEANS = 4;
    private static final int[] NO_TAPES = {-1, 6, 7, MIN, MAX};

    public static void main(String[] args) {
        tapeNone();
        tapeSorts();
        tapeAboveSixty();
        tapeSize();
        tapeNothing();
        tapeAllNought();
        tapeFirstNamed();
        itemNone();
        itemNothing();
        itemPlace();
        itemFirstNamed();
        itemLowestBits();
        itemBooleans();
        readNo();
        shiftNone();
        shiftNothing();
        shiftCast();
        shiftPlace();
        shiftAll();
        shiftAsBefore();
        shiftFirstNamed();
        refusalsByName();
        d.finish();
    }

    // ---- 38

    private static void tapeNone() {
        d.says(38, "NONE: tape");
        NoneSees x = new NoneSees();
        for (int tape : NO_TAPES) {
            d.due("tape(" + tape + ", 0, 1)", x.tape(tape, 0, 1), -1);
            d.due("tape(" + tape + ", -1, 0)", x.tape(tape, -1, 0), -1);
        }
        d.says(38, "TAPES 0 .. 5 hold nothing (at first)");
        for (int tape = 0; tape < 6; tape++) {
            d.due("read(" + tape + ", 0)", x.read(tape, 0), NoneSees.NO);
            d.due("tape(" + tape + ", 2, 1)", x.tape(tape, INTS, 1), 1);
            d.due("read(" + tape + ", 0)", x.read(tape, 0), 0);
        }
    }

    private static void tapeSorts() {
        d.says(38, "or a row of 0 bytes, 1 shorts, 2 ints, 3 longs, 4 booleans (items 0, 1)");
        int[] bad = {-2, 5, 6, MIN, MAX};
        NoneSees x = new NoneSees();
        for (int sort : bad) {
            d.due("tape(0, " + sort + ", 1)", x.tape(0, sort, 1), -2);
        }
        long[] kept = {(byte) 0x123456789AL, (short) 0x123456789AL, (int) 0x123456789AL, 0x123456789AL, 1};
        for (int sort = BYTES; sort <= BOOLEANS; sort++) {
            d.due("tape(0, " + sort + ", 1)", x.tape(0, sort, 1), 1);
            x.item(0, 0, 0x123456789AL);
            d.due("as many bits as it has", x.read(0, 0), kept[sort]);
        }
    }

    private static void tapeAboveSixty() {
        d.says(38, "n above 60");
        int[] above = {61, 62, 100, MAX};
        NoneSees x = new NoneSees();
        for (int sort = BYTES; sort <= BOOLEANS; sort++) {
            for (int n : above) {
                d.due("tape(" + sort + ", " + sort + ", " + n + ")", x.tape(sort, sort, n), -2);
            }
            d.due("tape(" + sort + ", " + sort + ", 60)", x.tape(sort, sort, 60), 1);
            d.due("its last item", x.item(sort, 59, 1), 1);
            d.due("none behind it", x.item(sort, 60, 1), -13);
            d.due("read", x.read(sort, 59), 1);
        }
        d.says(38, "A TAPE becomes a row of n (0 .. 60) of a sort");
        d.due("tape(5, 0, 0)", x.tape(5, BYTES, 0), 1);
        d.due("no items", x.item(5, 0, 1), -13);
        d.due("tape(5, 0, 1)", x.tape(5, BYTES, 1), 1);
        d.due("one item", x.item(5, 0, 1), 1);
        d.due("no second one", x.item(5, 1, 1), -13);
    }

    private static void tapeSize() {
        d.says(38, "SIZE (-14): a size below 0");
        int[] below = {-1, -2, -60, MIN};
        NoneSees x = new NoneSees();
        for (int sort = BYTES; sort <= BOOLEANS; sort++) {
            for (int n : below) {
                d.due("tape(0, " + sort + ", " + n + ")", x.tape(0, sort, n), -14);
            }
        }
        d.due("it still holds nothing", x.item(0, 0, 0), -11);
        d.due("tape(0, 0, 0)", x.tape(0, BYTES, 0), 1);
        d.due("it is a row now", x.item(0, 0, 0), -13);
    }

    private static void tapeNothing() {
        d.says(38, "or holds nothing (sort -1: n does not matter): 1");
        int[] any = {0, 1, 60, 61, -1, MIN, MAX};
        NoneSees x = new NoneSees();
        for (int n : any) {
            d.due("it held nothing, " + n, x.tape(0, -1, n), 1);
            x.tape(0, LONGS, 60);
            d.due("it held a row, " + n, x.tape(0, -1, n), 1);
            d.due("nothing is there", x.item(0, 0, 0), -11);
            d.due("read(0, 0)", x.read(0, 0), NoneSees.NO);
        }
    }

    private static void tapeAllNought() {
        d.says(38, "A TAPE becomes a row of n (0 .. 60) of a sort, all 0");
        NoneSees x = new NoneSees();
        x.tape(1, LONGS, 60);
        x.tape(0, LONGS, 60);
        x.tape(2, LONGS, 60);
        for (int i = 0; i < 60; i++) {
            x.item(1, i, -1);
        }
        x.item(0, 59, 7);
        x.item(2, 0, 8);
        d.due("of the same sort", x.tape(1, LONGS, 60), 1);
        for (int i = 0; i < 60; i++) {
            d.due("read(1, " + i + ")", x.read(1, i), 0);
        }
        d.due("the one before stays", x.read(0, 59), 7);
        d.due("the one behind stays", x.read(2, 0), 8);
        x.item(1, 0, 5);
        x.tape(1, LONGS, 1);
        x.tape(1, LONGS, 2);
        d.due("made shorter and longer", x.read(1, 0) + x.read(1, 1), 0);
    }

    private static void tapeFirstNamed() {
        d.says(38, "NONE: tape; BAD: sort, n above 60; SIZE.");
        NoneSees x = new NoneSees();
        d.due("tape, sort", x.tape(6, 5, 1), -1);
        d.due("tape, n above", x.tape(-1, 0, 61), -1);
        d.due("tape, n below", x.tape(6, 0, -1), -1);
        d.due("sort, n below", x.tape(0, 5, -1), -2);
        d.due("sort below, n below", x.tape(0, -2, -1), -2);
        d.due("sort, n above", x.tape(0, 5, 61), -2);
        d.due("n below", x.tape(0, 4, -1), -14);
    }

    // ---- 39

    private static void itemNone() {
        d.says(39, "NONE");
        NoneSees x = new NoneSees();
        for (int tape : NO_TAPES) {
            d.due("item(" + tape + ", 0, 0)", x.item(tape, 0, 0), -1);
        }
        for (int tape = 0; tape < 6; tape++) {
            x.tape(tape, INTS, 1);
            d.due("item(" + tape + ", 0, 3)", x.item(tape, 0, 3 + tape), 1);
        }
        for (int tape = 0; tape < 6; tape++) {
            d.due("each its own", x.read(tape, 0), 3 + tape);
        }
    }

    private static void itemNothing() {
        d.says(39, "NOTHING (-11): nothing is there");
        NoneSees x = new NoneSees();
        for (int tape = 0; tape < 6; tape++) {
            d.due("item(" + tape + ", 0, 1)", x.item(tape, 0, 1), -11);
            x.tape(tape, BYTES, 0);
            d.due("an empty row is no nothing", x.item(tape, 0, 1), -13);
            x.tape(tape, -1, 0);
            d.due("nothing again", x.item(tape, 0, 1), -11);
        }
    }

    private static void itemPlace() {
        d.says(39, "PLACE (-13): no such place");
        NoneSees x = new NoneSees();
        x.tape(3, SHORTS, 7);
        int[] none = {-1, 7, 8, 59, 60, MIN, MAX};
        for (int i : none) {
            d.due("item(3, " + i + ", 1)", x.item(3, i, 1), -13);
        }
        d.due("the first", x.item(3, 0, 5), 1);
        d.due("the last", x.item(3, 6, 6), 1);
        d.due("read(3, 0)", x.read(3, 0), 5);
        d.due("read(3, 6)", x.read(3, 6), 6);
    }

    private static void itemFirstNamed() {
        d.says(39, "NONE; NOTHING; PLACE.");
        NoneSees x = new NoneSees();
        x.tape(0, BYTES, 2);
        d.due("tape, place", x.item(6, -1, 0), -1);
        d.due("tape below, place", x.item(-1, 2, 0), -1);
        d.due("nothing, place below 0", x.item(1, -1, 0), -11);
        d.due("nothing, place", x.item(1, 60, 0), -11);
        d.due("place", x.item(0, 2, 0), -13);
    }

    private static void itemLowestBits() {
        d.says(39, "Item i of a TAPE becomes v (its lowest bits, as many as an item has; booleans: whether v is not "
            + "0): 1.");
        long[] values = {0, 1, -1, 127, 128, 255, 256, -128, -129, 32767, 32768, 65535, 65536, -32768, -32769,
            2147483647L, 2147483648L, 4294967295L, 4294967296L, -2147483648L, -2147483649L, Long.MAX_VALUE,
            Long.MIN_VALUE, Long.MIN_VALUE + 1};
        long[] bytes = {0, 1, -1, 127, -128, -1, 0, -128, 127, -1, 0, -1, 0, 0, -1, -1, 0, -1, 0, 0, -1, -1, 0, 1};
        long[] shorts = {0, 1, -1, 127, 128, 255, 256, -128, -129, 32767, -32768, -1, 0, -32768, 32767, -1, 0, -1, 0, 0,
            -1, -1, 0, 1};
        long[] ints = {0, 1, -1, 127, 128, 255, 256, -128, -129, 32767, 32768, 65535, 65536, -32768, -32769,
            2147483647L, -2147483648L, -1, 0, -2147483648L, 2147483647L, -1, 0, 1};
        NoneSees x = new NoneSees();
        for (int sort = BYTES; sort <= LONGS; sort++) {
            x.tape(sort, sort, 1);
        }
        for (int k = 0; k < values.length; k++) {
            long[] due = {bytes[k], shorts[k], ints[k], values[k]};
            for (int sort = BYTES; sort <= LONGS; sort++) {
                d.due("item", x.item(sort, 0, values[k]), 1);
                d.due("sort " + sort + ", " + values[k], x.read(sort, 0), due[sort]);
            }
        }
    }

    private static void itemBooleans() {
        d.says(39, "booleans: whether v is not 0");
        long[] values = {1, -1, 2, 128, 256, 65536, 1L << 31, 1L << 32, 1L << 62, Long.MIN_VALUE, Long.MAX_VALUE};
        NoneSees x = new NoneSees();
        x.tape(0, BOOLEANS, 1);
        for (long v : values) {
            x.item(0, 0, v);
            d.due("item(0, 0, " + v + ")", x.read(0, 0), 1);
            x.item(0, 0, 0);
            d.due("item(0, 0, 0)", x.read(0, 0), 0);
        }
    }

    // ---- 40

    private static void readNo() {
        d.says(40, "NO: no such TAPE");
        NoneSees x = new NoneSees();
        for (int tape = 0; tape < 6; tape++) {
            x.tape(tape, LONGS, 60);
            x.item(tape, 0, tape + 1);
        }
        for (int tape : NO_TAPES) {
            d.due("read(" + tape + ", 0)", x.read(tape, 0), NoneSees.NO);
        }
        d.due("read(0, 0)", x.read(0, 0), 1);
        d.due("read(5, 0)", x.read(5, 0), 6);
        d.says(40, "NO: no such TAPE, nothing there");
        x.tape(0, -1, 0);
        d.due("nothing is there", x.read(0, 0), NoneSees.NO);
        d.due("the next one", x.read(1, 0), 2);
        d.says(40, "NO: no such TAPE, nothing there, no such place.");
        x.tape(1, BOOLEANS, 3);
        int[] none = {-1, 3, 4, 59, 60, MIN, MAX};
        for (int i : none) {
            d.due("read(1, " + i + ")", x.read(1, i), NoneSees.NO);
        }
        d.due("the first", x.read(1, 0), 0);
        d.due("the last", x.read(1, 2), 0);
        d.due("the last of 60", x.read(2, 59), 0);
        d.due("behind the last of 60", x.read(2, 60), NoneSees.NO);
        x.tape(1, BOOLEANS, 0);
        d.due("an empty row", x.read(1, 0), NoneSees.NO);
        x.tape(1, LONGS, 1);
        x.item(1, 0, Long.MIN_VALUE);
        d.due("an item may be as NO is", x.read(1, 0), Long.MIN_VALUE);
    }

    // ---- 41

    private static void shiftNone() {
        d.says(41, "NONE: tapes");
        NoneSees x = new NoneSees();
        x.tape(0, INTS, 2);
        x.tape(5, INTS, 2);
        for (int tape : NO_TAPES) {
            d.due("from " + tape, x.shift(tape, 0, 0, 0, 1), -1);
            d.due("to " + tape, x.shift(0, 0, tape, 0, 1), -1);
            d.due("both", x.shift(tape, 0, tape, 0, 0), -1);
        }
        d.due("from the first to the last", x.shift(0, 0, 5, 0, 2), 2);
        d.due("from the last to the first", x.shift(5, 0, 0, 0, 2), 2);
    }

    private static void shiftNothing() {
        d.says(41, "NOTHING");
        NoneSees x = new NoneSees();
        x.tape(0, INTS, 2);
        d.due("from nothing", x.shift(1, 0, 0, 0, 0), -11);
        d.due("to nothing", x.shift(0, 0, 1, 0, 0), -11);
        d.due("from nothing to nothing", x.shift(1, 0, 2, 0, 0), -11);
        d.due("to itself", x.shift(1, 0, 1, 0, 0), -11);
        x.tape(1, INTS, 0);
        d.due("an empty row", x.shift(1, 0, 0, 0, 0), 0);
    }

    private static void shiftCast() {
        d.says(41, "CAST: of unlike sorts");
        NoneSees x = new NoneSees();
        for (int sort = BYTES; sort <= BOOLEANS; sort++) {
            for (int other = BYTES; other <= BOOLEANS; other++) {
                x.tape(0, sort, 2);
                x.tape(1, other, 2);
                d.due(sort + " to " + other, x.shift(0, 0, 1, 0, 2), sort == other ? 2 : -12);
                d.due(sort + " to " + other + ", none", x.shift(0, 0, 1, 0, 0), sort == other ? 0 : -12);
            }
        }
    }

    private static void shiftPlace() {
        d.says(41, "PLACE: n, i or j is below 0, or beyond either's end");
        NoneSees x = new NoneSees();
        x.tape(0, INTS, 5);
        x.tape(1, INTS, 3);
        int[][] none = {{-1, 0, 1}, {0, -1, 1}, {0, 0, -1}, {-1, 0, 0}, {0, -1, 0}, {5, 0, 1}, {0, 3, 1}, {6, 0, 0},
            {0, 4, 0}, {3, 0, 3}, {2, 1, 3}, {0, 0, 4}, {0, 0, 6}, {MAX, 0, 1}, {0, MAX, 1}, {0, 0, MAX}, {MAX, 0, MAX},
            {1, 1, MAX}, {MIN, 0, 1}, {0, MIN, 1}, {0, 0, MIN}, {MIN, MIN, MIN}};
        for (int[] p : none) {
            d.due("shift(0, " + p[0] + ", 1, " + p[1] + ", " + p[2] + ")", x.shift(0, p[0], 1, p[1], p[2]), -13);
        }
        int[][] good = {{0, 0, 0}, {5, 3, 0}, {5, 0, 0}, {0, 3, 0}, {4, 2, 1}, {2, 0, 3}, {0, 0, 3}, {3, 1, 2}};
        for (int[] p : good) {
            d.due("shift(0, " + p[0] + ", 1, " + p[1] + ", " + p[2] + ")", x.shift(0, p[0], 1, p[1], p[2]), p[2]);
        }
        d.due("back: too long for it", x.shift(1, 0, 0, 0, 4), -13);
        d.due("in itself, beyond its end", x.shift(0, 0, 0, 1, 5), -13);
        x.tape(2, INTS, 0);
        d.due("an empty row", x.shift(2, 0, 2, 0, 0), 0);
        d.due("an empty row has no items", x.shift(2, 0, 2, 0, 1), -13);
        d.due("nor a place 1", x.shift(2, 1, 2, 0, 0), -13);
    }

    private static void fill(NoneSees x, int tape, int n) {
        x.tape(tape, INTS, n);
        for (int i = 0; i < n; i++) {
            x.item(tape, i, i + 1);
        }
    }

    private static void isRow(NoneSees x, int tape, int... items) {
        for (int i = 0; i < items.length; i++) {
            d.due("read(" + tape + ", " + i + ")", x.read(tape, i), items[i]);
        }
        d.due("its end", x.read(tape, items.length), NoneSees.NO);
    }

    private static void shiftAll() {
        d.says(41, "n items of a TAPE from i on come to another one (or the same) from j on");
        NoneSees x = new NoneSees();
        fill(x, 0, 60);
        x.tape(5, INTS, 60);
        d.due("sixty", x.shift(0, 0, 5, 0, 60), 60);
        for (int i = 0; i < 60; i++) {
            d.due("read(5, " + i + ")", x.read(5, i), i + 1);
        }
        d.due("the last to the first place", x.shift(0, 59, 5, 0, 1), 1);
        d.due("the first to the last place", x.shift(0, 0, 5, 59, 1), 1);
        d.due("read(5, 0)", x.read(5, 0), 60);
        d.due("read(5, 59)", x.read(5, 59), 1);
        d.due("read(5, 1)", x.read(5, 1), 2);
        d.due("none", x.shift(0, 0, 5, 1, 0), 0);
        d.due("read(5, 1)", x.read(5, 1), 2);
        d.due("where it came from", x.read(0, 0) + x.read(0, 59), 61);
    }

    private static void shiftAsBefore() {
        d.says(41, "as they all were before: n");
        NoneSees x = new NoneSees();
        fill(x, 0, 5);
        d.due("on by one", x.shift(0, 0, 0, 1, 4), 4);
        isRow(x, 0, 1, 1, 2, 3, 4);
        fill(x, 0, 5);
        d.due("back by one", x.shift(0, 1, 0, 0, 4), 4);
        isRow(x, 0, 2, 3, 4, 5, 5);
        fill(x, 0, 5);
        d.due("on by two", x.shift(0, 0, 0, 2, 3), 3);
        isRow(x, 0, 1, 2, 1, 2, 3);
        d.due("where they are", x.shift(0, 0, 0, 0, 5), 5);
        isRow(x, 0, 1, 2, 1, 2, 3);
    }

    private static void shiftFirstNamed() {
        d.says(41, "NONE: tapes; NOTHING; CAST: of unlike sorts; PLACE");
        NoneSees x = new NoneSees();
        x.tape(0, INTS, 2);
        x.tape(1, LONGS, 2);
        x.tape(2, INTS, 2);
        d.due("no tape, nothing", x.shift(6, 0, 5, 0, 0), -1);
        d.due("nothing, no tape", x.shift(5, 0, 6, 0, 0), -1);
        d.due("no tape, place", x.shift(0, -1, 6, -1, -1), -1);
        d.due("nothing, place", x.shift(0, -1, 5, 9, -1), -11);
        d.due("nothing there, place", x.shift(5, -1, 0, 9, -1), -11);
        d.due("unlike, place", x.shift(0, -1, 1, 0, 0), -12);
        d.due("unlike, other's place", x.shift(0, 0, 1, 3, 0), -12);
        d.due("unlike, n below 0", x.shift(0, 0, 1, 0, -1), -12);
        d.due("alike, place", x.shift(0, 0, 2, 3, 0), -13);
    }

    private static void refusalsByName() {
        d.says(41, "NOTHING (-11): nothing is there; CAST (-12): another sort or KIND; PLACE (-13): no such place; "
            + "SIZE (-14): a size below 0.");
        NoneSees x = Due.with("", 0);
        x.tape(0, INTS, 2);
        x.tape(1, LONGS, 2);
        d.due("nothing", x.shift(0, 0, 2, 0, 0), -11);
        d.due("no plan", x.taken(1, 0), -11);
        d.due("another sort", x.shift(0, 0, 1, 0, 0), -12);
        d.due("another kind", x.taken(0, 1), -12);
        d.due("no place", x.shift(0, 3, 0, 0, 0), -13);
        d.due("below 0", x.tape(0, INTS, -1), -14);
    }
}
