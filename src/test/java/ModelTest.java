import java.util.Random;

/** Long runs of calls, each answered by NoneSees as by the Model; the seed is fixed, so each run is the same. */
public final class ModelTest {
    private static final int RUNS = 1500, CALLS = 300;

    private final Random random;
    private final NoneSees x = new NoneSees();
    private final Model m = new Model();
    private final StringBuilder told = new StringBuilder();
    private int plans = 0;

    private ModelTest(long seed) {
        random = new Random(seed);
    }

    public static void main(String[] args) {
        int wrong = 0;
        for (int run = 0; run < RUNS && wrong < 5; run++) {
            if (!new ModelTest(run).run()) {
                wrong++;
            }
        }
        System.out.println(RUNS + " runs of " + CALLS + " calls, " + wrong + " not as the model");
        if (wrong != 0) {
            System.exit(1);
        }
    }

    private boolean run() {
        for (int call = 0; call < CALLS; call++) {
            long[] answers = call < 3 && random.nextInt(4) > 0 ? yard() : random.nextInt(5) == 0 ? change() : any();
            if (answers[0] != answers[1]) {
                System.out.println(told + "answered " + answers[0] + ", the model " + answers[1]);
                return false;
            }
        }
        return true;
    }

    private int below(int n) {
        return random.nextInt(n);
    }

    /** 0 .. n - 1, at times one beside that. */
    private int about(int n) {
        int which = below(40);
        return which == 0 ? -1 : which == 1 ? n : which == 2 ? extreme() : below(n);
    }

    private int extreme() {
        int[] far = {Integer.MIN_VALUE, Integer.MAX_VALUE, -2, 26, 100, -7};
        return far[below(far.length)];
    }

    private int square() {
        int wide = m.told(0);
        return about(wide * wide);
    }

    private int planNumber() {
        return plans == 0 ? about(6) : about(plans);
    }

    private void tell(String name, long... values) {
        told.append(name);
        for (long v : values) {
            told.append(' ').append(v);
        }
        told.append('\n');
    }

    private String test() {
        return "" + "xysdnw".charAt(below(6)) + "<=>".charAt(below(3)) + (below(4) == 0 ? below(26) : below(5));
    }

    private String one(int deep) {
        int which = below(deep > 4 ? 8 : 12);
        return which < 8 ? test() : which < 10 ? "!" + one(deep + 1) : "(" + any(deep + 1) + ")";
    }

    private String any(int deep) {
        String e = one(deep);
        while (below(5) < 2) {
            e += (below(2) == 0 ? "&" : "|") + one(deep);
        }
        return e;
    }

    private String clause() {
        switch (below(6)) {
            case 0: return "hole " + any(below(2) * 3) + "&" + test();
            case 1: return "bar " + any(0);
            case 2: return "round";
            case 3: return "flat";
            case 4: return "hole n=" + below(25);
            default: return "wide " + (below(8) == 0 ? below(100) : 2 + below(4));
        }
    }

    private String text() {
        StringBuilder text = new StringBuilder(clause());
        while (below(5) < 3) {
            text.append(';').append(below(30) == 0 ? "flat;flat;flat;flat;flat" : clause());
        }
        if (below(4) == 0) {
            int place = below(text.length());
            String signs = "xw(!)&|;<=>1 0flat" + (char) below(128);
            char sign = signs.charAt(below(signs.length()));
            switch (below(4)) {
                case 0: text.setCharAt(place, sign); break;
                case 1: text.insert(place, sign); break;
                case 2: text.deleteCharAt(place); break;
                default: text.setLength(place); break;
            }
        }
        return text.toString();
    }

    private long[] yard() {
        String text = text();
        told.append(text).append('\n');
        for (int i = 0; i < text.length(); i++) {
            int a = x.feed(text.charAt(i));
            int b = m.feed(text.charAt(i));
            if (a != b) {
                return new long[] {a, b};
            }
        }
        return new long[] {x.yard(), m.yard()};
    }

    private long[] change() {
        int which = below(12);
        if (which == 0) {
            int kind = about(7);
            int v = about(10);
            tell("plan", kind, v);
            long[] answers = {x.plan(kind, v), m.plan(kind, v)};
            plans = m.count(0);
            return answers;
        }
        if (which == 1 && below(4) == 0) {
            return yard();
        }
        if (which == 2) {
            int p = planNumber();
            int part = about(8);
            int n = about(2);
            tell("row", p, part, n);
            return new long[] {x.row(p, part, n), m.row(p, part, n)};
        }
        if (which == 3 && below(3) == 0) {
            tell("clear");
            return new long[] {x.clear(), m.clear()};
        }
        if (which == 4) {
            int square = square();
            tell("take", square);
            return new long[] {x.take(square), m.take(square)};
        }
        if (which == 5 && below(3) == 0) {
            tell("image");
            return new long[] {x.image(), m.image()};
        }
        if (which == 6 && below(3) == 0) {
            tell("undo");
            long[] answers = {x.undo(), m.undo()};
            plans = m.count(0);
            return answers;
        }
        int p = planNumber();
        int square = square();
        tell("set", p, square);
        return new long[] {x.set(p, square), m.set(p, square)};
    }

    private long[] any() {
        switch (below(4)) {
            case 0: return planCall();
            case 1: return tapeCall();
            case 2: return toldCall();
            default: return askCall();
        }
    }

    private long[] planCall() {
        int p = planNumber();
        int n = about(m.told(0)) - below(2);
        int what = about(2);
        int which = below(12);
        tell("plan call " + which, p, n, what);
        switch (which) {
            case 0: return new long[] {x.of(p, n), m.of(p, n)};
            case 1: return new long[] {x.ways(p, n), m.ways(p, n)};
            case 2: return new long[] {x.after(p, n), m.after(p, n)};
            case 3: return new long[] {x.most(p), m.most(p)};
            case 4: return new long[] {x.hold(p, what), m.hold(p, what)};
            case 5: return new long[] {x.more(p), m.more(p)};
            case 6: return new long[] {x.game(p), m.game(p)};
            case 7: return new long[] {x.rubbed(p), m.rubbed(p)};
            case 8: return new long[] {x.odds(p, what), m.odds(p, what)};
            case 9: return rowOfMen();
            case 10: return new long[] {x.taken(p, n), m.taken(p, n)};
            default: return actCall(p);
        }
    }

    /** One man in each row, so that AFTER has something to be behind of. */
    private long[] rowOfMen() {
        x.clear();
        m.clear();
        for (int y = 0; y < m.told(0); y++) {
            int square = y * m.told(0) + below(m.told(0));
            int p = planNumber();
            tell("set", p, square);
            long[] answers = {x.set(p, square), m.set(p, square)};
            if (answers[0] != answers[1]) {
                return answers;
            }
        }
        int p = planNumber();
        int row = about(m.told(0));
        tell("after", p, row);
        return new long[] {x.after(p, row), m.after(p, row)};
    }

    private long[] actCall(int p) {
        int act = about(3);
        int n = below(3) == 0 ? random.nextInt() : below(20) - 9;
        tell("act", p, act, n);
        int a = x.act(p, act, n);
        int b = m.act(p, act, n);
        for (int i = -1; a == b && i < 22; i++) {
            a = x.trace(i);
            b = m.trace(i);
        }
        return new long[] {a, b};
    }

    private long[] tapeCall() {
        int t = below(3) == 0 ? about(6) : below(2);
        int i = below(3) == 0 ? about(60) : below(6) - 1;
        int j = below(3) == 0 ? about(60) : below(6) - 1;
        int other = below(3) == 0 ? about(6) : below(2);
        int n = below(4) == 0 ? about(61) : below(6);
        long v = below(2) == 0 ? random.nextLong() : below(2);
        int which = below(7);
        tell("tape call " + which, t, i, other, j, n, v);
        switch (which) {
            case 0: {
                int sort = below(2) == 0 ? 4 : about(5);
                tell("sort", sort);
                return new long[] {x.tape(t, sort, n), m.tape(t, sort, n)};
            }
            case 1:
            case 2: return new long[] {x.item(t, i, v), m.item(t, i, v)};
            case 3: return new long[] {x.read(t, i), m.read(t, i)};
            case 4: return new long[] {x.shift(t, i, other, j, n), m.shift(t, i, other, j, n)};
            case 5: return judgedTape(t);
            default: return new long[] {x.judge(t, i), m.judge(t, i)};
        }
    }

    /** A tape that tells of men as they are, but for an item at times. */
    private long[] judgedTape(int t) {
        int start = below(3) * below(20);
        int size = Math.min(60, start + below(30));
        x.tape(t, 4, size);
        m.tape(t, 4, size);
        int men = m.told(5);
        for (int i = start; i < size; i++) {
            int told = (men >> i - start & 1) ^ (below(40) == 0 ? 1 : 0);
            x.item(t, i, told);
            m.item(t, i, told);
        }
        tell("judge", t, start, size);
        return new long[] {x.judge(t, start), m.judge(t, start)};
    }

    private long[] toldCall() {
        int square = below(8) == 0 ? -1 : square();
        int n = below(3) == 0 ? about(26) : below(3);
        int which = below(7);
        tell("told call " + which, square, n);
        switch (which) {
            case 0: return new long[] {x.aim(square), m.aim(square)};
            case 1: return new long[] {x.see(square, n), m.see(square, n)};
            case 2: return new long[] {x.book(square), m.book(square)};
            case 3: return aimAsMany();
            case 4: return new long[] {x.reach(), m.reach()};
            case 5: return new long[] {x.looked(), m.looked()};
            default: return seenAndRubbed();
        }
    }

    /** Tells what a man somewhere would make SEEN, so that RUBBED has something to find. */
    private long[] seenAndRubbed() {
        x.see(-1, 0);
        m.see(-1, 0);
        for (int i = below(4); i > 0; i--) {
            int square = square();
            int n = Math.max(0, m.at(square, 1)) + below(2);
            tell("see", square, n);
            x.see(square, n);
            m.see(square, n);
        }
        int p = planNumber();
        tell("rubbed", p);
        return new long[] {x.rubbed(p), m.rubbed(p)};
    }

    private long[] aimAsMany() {
        x.aim(-1);
        m.aim(-1);
        tell("aim -1");
        while (m.told(2) <= 5 && m.count(2) < m.told(2)) {
            int square = square();
            tell("aim", square);
            long[] answers = {x.aim(square), m.aim(square)};
            if (answers[0] != answers[1]) {
                return answers;
            }
        }
        return new long[] {x.reach(), m.reach()};
    }

    private long[] askCall() {
        int square = square();
        int p = planNumber();
        int what = about(8);
        int which = below(9);
        tell("ask call " + which, square, p, what);
        switch (which) {
            case 0: return new long[] {x.told(what), m.told(what)};
            case 1: return new long[] {x.at(square, what), m.at(square, what)};
            case 2: return new long[] {x.sees(p, square), m.sees(p, square)};
            case 3: return new long[] {x.worst(), m.worst()};
            case 4: return new long[] {x.right(what), m.right(what)};
            case 5: return new long[] {x.turned(what), m.turned(what)};
            case 6: return new long[] {x.alike(), m.alike()};
            case 7: return new long[] {x.mean(what), m.mean(what)};
            default: return new long[] {x.count(what), m.count(what)};
        }
    }
}
