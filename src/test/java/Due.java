/** What a test's calls are due to answer; prints those that do not. */
final class Due {
    static final int MAN = 0, ROOK = 1, BISHOP = 2, KING = 3, QUEEN = 4, HORSE = 5, TOLD = 6;

    private int checked = 0;
    private int wrong = 0;
    private String part = "";

    void part(String name) {
        part = name;
    }

    void due(String call, long got, long want) {
        checked++;
        if (got != want) {
            wrong++;
            System.out.println(part + ": " + call + " answered " + got + ", due is " + want);
        }
    }

    void finish() {
        System.out.println(checked + " answers looked at, " + wrong + " not as due");
        if (wrong != 0 || checked == 0) {
            System.exit(1);
        }
    }

    /** A new object whose newest YARD is this text. */
    static NoneSees on(String text) {
        NoneSees x = new NoneSees();
        int number = yard(x, text);
        if (number != 0) {
            throw new IllegalStateException(text + " answered " + number);
        }
        return x;
    }

    static int yard(NoneSees x, String text) {
        feed(x, text);
        return x.yard();
    }

    static void feed(NoneSees x, String text) {
        for (int i = 0; i < text.length(); i++) {
            x.feed(text.charAt(i));
        }
    }

    static int bits(int... squares) {
        int bits = 0;
        for (int square : squares) {
            bits |= 1 << square;
        }
        return bits;
    }

    static void setAll(NoneSees x, int plan, int... squares) {
        for (int square : squares) {
            if (x.set(plan, square) < 0) {
                throw new IllegalStateException("no man can be set on " + square);
            }
        }
    }
}
