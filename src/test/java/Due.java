/** What a test's calls are due to answer; prints those that do not. */
final class Due {
    static final int MAN = 0, ROOK = 1, BISHOP = 2, KING = 3, QUEEN = 4, HORSE = 5, TOLD = 6;

    private int checked = 0;
    private int wrong = 0;
    private int checkedBefore = 0;
    private String part = "";

    void part(String name) {
        part = name;
    }

    /** What follows holds this sentence of the document, word by word, for this promise. */
    void says(int promise, String sentence) {
        endSentence();
        part = "promise " + promise + ", \"" + sentence + "\"";
    }

    private void endSentence() {
        if (part.startsWith("promise") && checked == checkedBefore) {
            wrong++;
            System.out.println(part + ": nothing was looked at");
        }
        checkedBefore = checked;
    }

    void due(String call, long got, long want) {
        checked++;
        if (got != want) {
            wrong++;
            System.out.println(part + ": " + call + " answered " + got + ", due is " + want);
        }
    }

    void finish() {
        endSentence();
        System.out.println(checked + " answers looked at, " + wrong + " not as due");
        if (wrong != 0 || checked == 0) {
            System.exit(1);
        }
    }

    /** A new object whose newest YARD is this text. */
    static NoneSees on(String text) {
        NoneSees x = new NoneSees();
        int number = yard(x, text);
        if (number != 0) {
            throw new IllegalStateException(text + " answered " + number);
        }
        return x;
    }

    /**
     * A new object with a YARD (none, if the text is empty) and PLANS, each told by its KIND and v as one
     * number: 57 is a HORSE of 7, 10 a ROOK of 0.
     */
    static NoneSees with(String text, int... plans) {
        NoneSees x = text.isEmpty() ? new NoneSees() : on(text);
        for (int plan : plans) {
            if (x.plan(plan / 10, plan % 10) < 0) {
                throw new IllegalStateException("no plan can come of " + plan);
            }
        }
        return x;
    }

    static int yard(NoneSees x, String text) {
        feed(x, text);
        return x.yard();
    }

    static void feed(NoneSees x, String text) {
        for (int i = 0; i < text.length(); i++) {
            x.feed(text.charAt(i));
        }
    }

    static int bits(int... squares) {
        int bits = 0;
        for (int square : squares) {
            bits |= 1 << square;
        }
        return bits;
    }

    /** The squares that are an o, told row by row, y = 0 first. */
    static int picture(String... rows) {
        int bits = 0;
        for (int y = 0; y < rows.length; y++) {
            if (rows[y].length() != rows.length) {
                throw new IllegalStateException(rows[y]);
            }
            for (int x = 0; x < rows.length; x++) {
                bits |= rows[y].charAt(x) == 'o' ? 1 << y * rows.length + x : 0;
            }
        }
        return bits;
    }

    static void setAll(NoneSees x, int plan, int... squares) {
        for (int square : squares) {
            if (x.set(plan, square) < 0) {
                throw new IllegalStateException("no man can be set on " + square);
            }
        }
    }

    /** Sets men on the squares that are in a set of bits. */
    static void setBits(NoneSees x, int plan, int bits) {
        for (int square = 0; square < 25; square++) {
            if ((bits >> square & 1) != 0) {
                setAll(x, plan, square);
            }
        }
    }
}
