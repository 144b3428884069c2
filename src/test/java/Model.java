import java.util.ArrayList;
import java.util.Arrays;
import java.util.HashMap;
import java.util.List;
import java.util.Map;
import java.util.TreeMap;
import java.util.TreeSet;
import java.util.regex.Matcher;
import java.util.regex.Pattern;

/** The document once more, slowly and word by word: what NoneSees is compared with. */
final class Model {
    private static final Pattern YARD = yardPattern();

    private record Ground(int wide, boolean round, TreeSet<Integer> holes, TreeSet<Integer> barred) { }

    private record Kind(int kind, int v, int[] row) { }

    private List<Kind> plans = new ArrayList<>();
    private TreeMap<Integer, Integer> men = new TreeMap<>();
    private List<Integer> aim = new ArrayList<>();
    private List<int[]> seen = new ArrayList<>();
    private List<Integer> book = new ArrayList<>();
    private Ground ground = new Ground(4, false, new TreeSet<>(), new TreeSet<>());
    private Model kept = null;
    private StringBuilder text = new StringBuilder();
    private int yards = 0;
    private List<Integer> bodies = new ArrayList<>();
    private final Map<Integer, Object[]> tapes = new HashMap<>();

    private static Pattern yardPattern() {
        String test = "[xysdnw][<=>][0-9]{1,2}";
        String one = test;
        for (int within = 3; within >= 0; within--) {
            String any = "(?:" + one + ")(?:[&|](?:" + one + "))*";
            one = test + "|!(?:" + one + ")|\\(" + any + "\\)";
        }
        String any = "(?:" + one + ")(?:[&|](?:" + one + "))*";
        String clause = "(?:wide [0-9]{1,2}|hole " + any + "|bar " + any + "|round|flat)";
        return Pattern.compile(clause + "(?:;" + clause + "){0,9}", Pattern.DOTALL);
    }

    // ---- the board

    private boolean holds(String e, int square) {
        int or = topLevel(e, '|');
        if (or >= 0) {
            return holds(e.substring(0, or), square) || holds(e.substring(or + 1), square);
        }
        int and = topLevel(e, '&');
        if (and >= 0) {
            return holds(e.substring(0, and), square) && holds(e.substring(and + 1), square);
        }
        if (e.charAt(0) == '!') {
            return !holds(e.substring(1), square);
        }
        if (e.charAt(0) == '(') {
            return holds(e.substring(1, e.length() - 1), square);
        }
        int w = ground.wide();
        int x = square % w;
        int y = square / w;
        int[] of = {x, y, x + y, Math.abs(x - y), square, w};
        int value = of["xysdnw".indexOf(e.charAt(0))];
        int sign = Integer.signum(Integer.compare(value, Integer.parseInt(e.substring(2))));
        return sign == "<=>".indexOf(e.charAt(1)) - 1;
    }

    private static int topLevel(String e, char operator) {
        int deep = 0;
        for (int i = 0; i < e.length(); i++) {
            deep += e.charAt(i) == '(' ? 1 : e.charAt(i) == ')' ? -1 : 0;
            if (deep == 0 && e.charAt(i) == operator) {
                return i;
            }
        }
        return -1;
    }

    int feed(int sign) {
        if (sign < 0 || sign > 127) {
            return -2;
        }
        if (text.length() == 100) {
            return -4;
        }
        text.append((char) sign);
        return text.length();
    }

    int yard() {
        if (yards == 6) {
            return -4;
        }
        String all = text.toString();
        text = new StringBuilder();
        for (int end = 0; end <= all.length(); end++) {
            Matcher m = YARD.matcher(all.substring(0, end));
            if (!m.matches() && !m.hitEnd()) {
                return -10 - (end - 1);
            }
        }
        if (!YARD.matcher(all).matches()) {
            return -10 - all.length();
        }
        layOut(all.split(";"));
        men.clear();
        aim.clear();
        seen.clear();
        book.clear();
        return yards++;
    }

    private void layOut(String[] clauses) {
        int wide = 4;
        boolean round = false;
        for (String clause : clauses) {
            if (clause.startsWith("wide")) {
                wide = Math.min(5, Math.max(2, Integer.parseInt(clause.substring(5))));
            } else if (clause.equals("round") || clause.equals("flat")) {
                round = clause.equals("round");
            }
        }
        ground = new Ground(wide, round, new TreeSet<>(), new TreeSet<>());
        for (String clause : clauses) {
            for (int square = 0; square < wide * wide; square++) {
                if (clause.startsWith("hole") && holds(clause.substring(5), square)) {
                    ground.holes().add(square);
                    ground.barred().add(square);
                } else if (clause.startsWith("bar") && holds(clause.substring(4), square)) {
                    ground.barred().add(square);
                }
            }
        }
    }

    private boolean noSquare(int square) {
        return square < 0 || square >= ground.wide() * ground.wide();
    }

    private boolean noPlan(int plan) {
        return plan < 0 || plan >= plans.size();
    }

    private static int bits(Iterable<Integer> squares) {
        int bits = 0;
        for (int square : squares) {
            bits += 1 << square;
        }
        return bits;
    }

    /** The square by a step; -1: there is none. */
    private int step(int square, int dx, int dy, boolean round) {
        int w = ground.wide();
        int x = square % w + dx;
        int y = square / w + dy;
        if (round) {
            x = (x + 10 * w) % w;
            y = (y + 10 * w) % w;
        }
        return x >= 0 && y >= 0 && x < w && y < w ? y * w + x : -1;
    }

    private TreeSet<Integer> view(int plan, int square) {
        TreeSet<Integer> seen = new TreeSet<>();
        Kind p = plans.get(plan);
        int kind = p.kind() == 5 && p.v() <= 4 ? 2 : p.kind();
        for (int dx = -2; dx <= 2; dx++) {
            for (int dy = -2; dy <= 2; dy++) {
                int far = Math.max(Math.abs(dx), Math.abs(dy));
                boolean straight = Math.abs(dx) + Math.abs(dy) == 1;
                boolean aslant = Math.abs(dx) == 1 && Math.abs(dy) == 1;
                boolean goes = (kind == 1 || kind == 4) && straight || (kind == 2 || kind == 4) && aslant;
                boolean steps = kind == 3 && far == 1 || kind == 5 && Math.abs(dx * dy) == 2
                    || kind == 6 && far == 1 && p.row()[way(dx, dy)] == 1;
                int to = step(square, dx, dy, ground.round());
                while ((goes || steps) && to >= 0 && to != square && !ground.holes().contains(to)) {
                    seen.add(to);
                    to = goes ? step(to, dx, dy, ground.round()) : -1;
                }
            }
        }
        return seen;
    }

    private static int way(int dx, int dy) {
        String[] ways = {"1,0", "0,1", "-1,0", "0,-1", "1,1", "-1,1", "-1,-1", "1,-1"};
        return Arrays.asList(ways).indexOf(dx + "," + dy);
    }

    private int seers(int square) {
        int many = 0;
        for (int from : men.keySet()) {
            many += view(men.get(from), from).contains(square) ? 1 : 0;
        }
        return many;
    }

    private boolean peace() {
        for (int square : men.keySet()) {
            if (seers(square) > 0) {
                return false;
            }
        }
        return true;
    }

    private boolean maySet(int square) {
        return !men.containsKey(square) && !ground.barred().contains(square);
    }

    private boolean fits(int plan, int square) {
        TreeSet<Integer> seen = view(plan, square);
        seen.retainAll(men.keySet());
        return seers(square) == 0 && seen.isEmpty();
    }

    // ---- plans, yards, men

    int plan(int kind, int v) {
        if (kind < 0 || kind > 6) {
            return -1;
        }
        if (v < 0 || v > 9) {
            return -2;
        }
        if (plans.size() == 6) {
            return -4;
        }
        plans.add(new Kind(kind, v, new int[] {1, 1, 1, 1, 1, 1, 1, 1}));
        return plans.size() - 1;
    }

    int of(int plan, int what) {
        if (noPlan(plan) || what < 0 || what > 2) {
            return -1;
        }
        int many = (int) men.values().stream().filter(p -> p == plan).count();
        return new int[] {plans.get(plan).kind(), plans.get(plan).v(), many}[what];
    }

    int row(int plan, int part, int n) {
        if (noPlan(plan) || part < 0 || part > 7) {
            return -1;
        }
        if (n != 0 && n != 1) {
            return -2;
        }
        if (plans.get(plan).kind() != 6) {
            return -3;
        }
        int was = plans.get(plan).row()[part];
        plans.get(plan).row()[part] = n;
        return was;
    }

    int told(int what) {
        switch (what) {
            case 0: return ground.wide();
            case 1: return ground.round() ? 1 : 0;
            case 2: return men.size();
            case 3: return bits(ground.holes());
            case 4: return bits(ground.barred());
            case 5: return bits(men.keySet());
            case 6: return peace() ? 1 : 0;
            default: return -1;
        }
    }

    int set(int plan, int square) {
        if (noPlan(plan) || noSquare(square)) {
            return -1;
        }
        if (!maySet(square)) {
            return -3;
        }
        int fits = fits(plan, square) ? 1 : 0;
        men.put(square, plan);
        return fits;
    }

    int take(int square) {
        if (noSquare(square)) {
            return -1;
        }
        Integer plan = men.remove(square);
        return plan == null ? -3 : plan;
    }

    int at(int square, int what) {
        if (noSquare(square) || what < 0 || what > 2) {
            return -1;
        }
        if (what == 1) {
            return seers(square);
        }
        Integer plan = men.get(square);
        return plan == null ? -5 : what == 0 ? plan : bits(view(plan, square));
    }

    int sees(int plan, int square) {
        return noPlan(plan) || noSquare(square) ? -1 : bits(view(plan, square));
    }

    int clear() {
        int many = men.size();
        men.clear();
        return many;
    }

    // ---- ways

    int worst() {
        int best = -5;
        int most = 0;
        for (int a : men.keySet()) {
            int many = 0;
            for (int b : men.keySet()) {
                boolean is = view(men.get(a), a).contains(b) || view(men.get(b), b).contains(a);
                many += is ? 1 : 0;
            }
            if (many > most) {
                most = many;
                best = a;
            }
        }
        return best;
    }

    /** Whether one sees the other, square by square. */
    private boolean[][] clashes(int plan) {
        int n = ground.wide() * ground.wide();
        boolean[][] clash = new boolean[n][n];
        for (int a = 0; a < n; a++) {
            for (int b : view(plan, a)) {
                clash[a][b] = true;
                clash[b][a] = true;
            }
        }
        return clash;
    }

    private List<int[]> allWays(int plan) {
        int w = ground.wide();
        boolean[][] clash = clashes(plan);
        List<int[]> found = new ArrayList<>();
        for (int number = 0; number < Math.pow(w, w); number++) {
            int[] row = new int[w];
            int rest = number;
            for (int y = w - 1; y >= 0; y--) {
                row[y] = rest % w;
                rest /= w;
            }
            boolean good = true;
            for (int y = 0; y < w; y++) {
                good &= !ground.barred().contains(y * w + row[y]);
                for (int up = 0; up < y; up++) {
                    good &= !clash[y * w + row[y]][up * w + row[up]];
                }
            }
            if (good) {
                found.add(row);
            }
        }
        return found;
    }

    int ways(int plan, int row) {
        if (noPlan(plan) || row < -1 || row >= ground.wide()) {
            return -1;
        }
        List<int[]> all = allWays(plan);
        return row < 0 ? all.size() : all.isEmpty() ? -5 : all.get(0)[row];
    }

    int after(int plan, int row) {
        int w = ground.wide();
        if (noPlan(plan) || row < 0 || row >= w) {
            return -1;
        }
        int[] stands = new int[w];
        for (int y = 0; y < w; y++) {
            if (men.subMap(y * w, y * w + w).size() != 1) {
                return -9;
            }
            stands[y] = men.ceilingKey(y * w) - y * w;
        }
        for (int[] way : allWays(plan)) {
            if (Arrays.compare(way, stands) > 0) {
                return way[row];
            }
        }
        return -5;
    }

    int most(int plan) {
        if (noPlan(plan)) {
            return -1;
        }
        int n = ground.wide() * ground.wide();
        boolean[][] clash = clashes(plan);
        int[] shut = new int[n];
        int free = 0;
        for (int a = 0; a < n; a++) {
            free |= ground.barred().contains(a) ? 0 : 1 << a;
            for (int b = 0; b < n; b++) {
                shut[a] |= a == b || clash[a][b] ? 1 << b : 0;
            }
        }
        return mostFrom(shut, free, new HashMap<>());
    }

    private int mostFrom(int[] shut, int free, Map<Integer, Integer> known) {
        if (free == 0) {
            return 0;
        }
        Integer told = known.get(free);
        if (told == null) {
            int a = Integer.numberOfTrailingZeros(free);
            int with = 1 + mostFrom(shut, free & ~shut[a], known);
            boolean alone = (shut[a] & free) == 1 << a;
            told = alone ? with : Math.max(with, mostFrom(shut, free & ~(1 << a), known));
            known.put(free, told);
        }
        return told;
    }

    int hold(int plan, int what) {
        if (noPlan(plan) || what < 0 || what > 1) {
            return -1;
        }
        int n = ground.wide() * ground.wide();
        int[] held = new int[n];
        for (int a = 0; a < n; a++) {
            held[a] = bits(view(plan, a)) | 1 << a;
        }
        int needed = (1 << n) - 1 & ~bits(ground.holes());
        for (int many = 1; many <= 4; many++) {
            for (long set = (1 << many) - 1; set < 1L << n; set = nextOfSize(set)) {
                int all = 0;
                for (int a = 0; a < n; a++) {
                    all |= (set >> a & 1) == 1 ? held[a] : 0;
                }
                if ((needed & ~all) == 0 && (set & bits(ground.barred())) == 0) {
                    return what == 0 ? many : (int) set;
                }
            }
        }
        return -5;
    }

    private static long nextOfSize(long set) {
        long low = set & -set;
        long up = set + low;
        return ((up ^ set) / low >> 2) | up;
    }

    int more(int plan) {
        if (noPlan(plan)) {
            return -1;
        }
        int bits = 0;
        for (int square = 0; !noSquare(square); square++) {
            bits |= maySet(square) && fits(plan, square) ? 1 << square : 0;
        }
        return bits;
    }

    int right(int what) {
        if (what < 0 || what > 1) {
            return -1;
        }
        int[] clash = new int[25];
        for (int a : men.keySet()) {
            for (int b : view(men.get(a), a)) {
                if (men.containsKey(b)) {
                    clash[a] |= 1 << b;
                    clash[b] |= 1 << a;
                }
            }
        }
        int all = bits(men.keySet());
        if (calm(clash, all)) {
            return 0;
        }
        for (int many = 1; many <= 4; many++) {
            for (long set = (1 << many) - 1; set < 1 << 25; set = nextOfSize(set)) {
                if ((set & ~all) == 0 && calm(clash, all & ~(int) set)) {
                    return what == 0 ? many : (int) set;
                }
            }
        }
        return -5;
    }

    private static boolean calm(int[] clash, int men) {
        for (int a = 0; a < 25; a++) {
            if ((men >> a & 1) == 1 && (clash[a] & men) != 0) {
                return false;
            }
        }
        return true;
    }

    int game(int plan) {
        if (noPlan(plan)) {
            return -1;
        }
        if (Integer.bitCount(more(plan)) > 9) {
            return -9;
        }
        return wins(plan, new HashMap<>()) ? 1 : 0;
    }

    private boolean wins(int plan, Map<Integer, Boolean> known) {
        int now = bits(men.keySet());
        if (!known.containsKey(now)) {
            boolean wins = false;
            int more = more(plan);
            for (int square = 0; square < 25; square++) {
                if ((more >> square & 1) == 1) {
                    men.put(square, plan);
                    wins |= !wins(plan, known);
                    men.remove(square);
                }
            }
            known.put(now, wins);
        }
        return known.get(now);
    }

    // ---- turned, reached, rubbed

    int turned(int how) {
        if (how < 0 || how > 7) {
            return -1;
        }
        int w = ground.wide();
        boolean[][] stands = new boolean[w][w];
        for (int square : men.keySet()) {
            int x = square % w;
            stands[square / w][how > 3 ? w - 1 - x : x] = true;
        }
        for (int i = 0; i < how % 4; i++) {
            boolean[][] next = new boolean[w][w];
            for (int y = 0; y < w; y++) {
                for (int x = 0; x < w; x++) {
                    next[x][w - 1 - y] = stands[y][x];
                }
            }
            stands = next;
        }
        for (int square = 0; square < w * w; square++) {
            if (stands[square / w][square % w] != men.containsKey(square)) {
                return 0;
            }
        }
        return 1;
    }

    int alike() {
        int many = 0;
        for (int how = 0; how < 8; how++) {
            many += turned(how);
        }
        return many;
    }

    int aim(int square) {
        if (square == -1) {
            aim.clear();
            return 0;
        }
        if (noSquare(square)) {
            return -1;
        }
        if (aim.contains(square)) {
            return -2;
        }
        if (aim.size() == 5) {
            return -4;
        }
        aim.add(square);
        return aim.size();
    }

    int reach() {
        if (men.size() > 5) {
            return -9;
        }
        if (men.size() != aim.size()) {
            return -5;
        }
        int n = ground.wide() * ground.wide();
        int[][] far = new int[n][n];
        for (int a = 0; a < n; a++) {
            for (int b = 0; b < n; b++) {
                int w = ground.wide();
                boolean beside = Math.abs(a % w - b % w) + Math.abs(a / w - b / w) == 1;
                far[a][b] = a == b ? 0 : beside && !ground.barred().contains(b) ? 1 : 1000;
            }
        }
        for (int by = 0; by < n; by++) {
            for (int a = 0; a < n; a++) {
                for (int b = 0; b < n; b++) {
                    far[a][b] = Math.min(far[a][b], far[a][by] + far[by][b]);
                }
            }
        }
        int fewest = fewest(far, new ArrayList<>(men.keySet()), new ArrayList<>(aim));
        return fewest >= 1000 ? -5 : fewest;
    }

    private static int fewest(int[][] far, List<Integer> from, List<Integer> to) {
        if (from.isEmpty()) {
            return 0;
        }
        int best = 100000;
        for (int i = 0; i < to.size(); i++) {
            List<Integer> rest = new ArrayList<>(to);
            int goal = rest.remove(i);
            best = Math.min(best, far[from.get(0)][goal] + fewest(far, from.subList(1, from.size()), rest));
        }
        return best;
    }

    int see(int square, int n) {
        if (square == -1) {
            seen.clear();
            return 0;
        }
        if (noSquare(square)) {
            return -1;
        }
        if (n < 0 || n > 25) {
            return -2;
        }
        if (seen.size() == 8) {
            return -4;
        }
        seen.add(new int[] {square, n});
        return seen.size();
    }

    int rubbed(int plan) {
        if (noPlan(plan)) {
            return -1;
        }
        int bits = 0;
        for (int square = 0; !noSquare(square); square++) {
            if (maySet(square)) {
                men.put(square, plan);
                boolean so = true;
                for (int[] told : seen) {
                    so &= seers(told[0]) == told[1];
                }
                men.remove(square);
                bits |= so ? 1 << square : 0;
            }
        }
        return bits;
    }

    // ---- odds, books

    private static long lowest(int above, int below, int part) {
        if (below == 0 || part < 0 || part > 1) {
            return Long.MIN_VALUE;
        }
        int a = above;
        int b = below;
        for (int divisor = below; divisor > 1; divisor--) {
            if (a % divisor == 0 && b % divisor == 0) {
                a /= divisor;
                b /= divisor;
            }
        }
        return part == 0 ? a : b;
    }

    long odds(int plan, int part) {
        if (noPlan(plan)) {
            return Long.MIN_VALUE;
        }
        int may = 0;
        for (int square = 0; !noSquare(square); square++) {
            may += maySet(square) ? 1 : 0;
        }
        return lowest(Integer.bitCount(more(plan)), may, part);
    }

    long mean(int part) {
        int sum = 0;
        for (int square : men.keySet()) {
            sum += view(men.get(square), square).size();
        }
        return lowest(sum, men.size(), part);
    }

    int book(int square) {
        if (square == -1) {
            book.clear();
            return 0;
        }
        if (noSquare(square)) {
            return -1;
        }
        if (book.size() == 12) {
            return -4;
        }
        book.add(square);
        return book.size();
    }

    int looked() {
        for (int i = 0; i < book.size(); i++) {
            if (!men.containsKey(book.get(i))) {
                return i;
            }
        }
        return -5;
    }

    // ---- judging, the image, acts, tapes

    int judge(int tape, int i) {
        if (tape < 0 || tape > 5) {
            return -1;
        }
        Object[] row = tapes.get(tape);
        if (row == null) {
            return 100;
        }
        if (!(row[0] instanceof boolean[] told)) {
            return -12;
        }
        int looked = 0;
        while (i >= 0 && looked < ground.wide() * ground.wide() && (long) i + looked < told.length) {
            if (told[i + looked] != men.containsKey(looked)) {
                return looked;
            }
            looked++;
        }
        return looked == ground.wide() * ground.wide() ? -5 : 100 + looked;
    }

    private void becomes(Model other) {
        plans = new ArrayList<>();
        for (Kind p : other.plans) {
            plans.add(new Kind(p.kind(), p.v(), p.row().clone()));
        }
        men = new TreeMap<>(other.men);
        aim = new ArrayList<>(other.aim);
        seen = new ArrayList<>(other.seen);
        book = new ArrayList<>(other.book);
        ground = other.ground;
    }

    int image() {
        kept = new Model();
        kept.becomes(this);
        return plans.size();
    }

    int undo() {
        if (kept == null) {
            return -3;
        }
        becomes(kept);
        return plans.size();
    }

    /** The BODIES as Java's own classes have them. */
    private static class Man {
        final int i;
        final int v;
        final List<Integer> ran;

        Man(int i, int v, List<Integer> ran) {
            this.i = i;
            this.v = v;
            this.ran = ran;
        }

        int looks(int x) {
            ran.add(10);
            return x + i;
        }

        int sees(int x) {
            ran.add(11);
            return looks(x) - v;
        }

        int tells(int x) {
            ran.add(12);
            return sees(x) * 2;
        }
    }

    private static class Rook extends Man {
        Rook(int i, int v, List<Integer> ran) {
            super(i, v, ran);
        }

        @Override
        int sees(int x) {
            ran.add(20);
            return super.sees(x) ^ 6;
        }
    }

    private static class Bishop extends Man {
        Bishop(int i, int v, List<Integer> ran) {
            super(i, v, ran);
        }

        @Override
        int looks(int x) {
            ran.add(30);
            return super.looks(x * 3);
        }
    }

    private static class King extends Man {
        King(int i, int v, List<Integer> ran) {
            super(i, v, ran);
        }

        @Override
        int tells(int x) {
            ran.add(40);
            return super.tells(x) + sees(1);
        }
    }

    private static final class Queen extends Rook {
        Queen(int i, int v, List<Integer> ran) {
            super(i, v, ran);
        }

        @Override
        int looks(int x) {
            ran.add(50);
            return -super.looks(x);
        }

        @Override
        int sees(int x) {
            ran.add(51);
            return super.sees(x + 1);
        }
    }

    private static final class Horse extends Bishop {
        Horse(int i, int v, List<Integer> ran) {
            super(i, v, ran);
        }

        @Override
        int tells(int x) {
            ran.add(60);
            return super.tells(x - i);
        }
    }

    private static final class Told extends King {
        Told(int i, int v, List<Integer> ran) {
            super(i, v, ran);
        }

        @Override
        int sees(int x) {
            ran.add(70);
            return super.sees(x) + super.looks(2);
        }

        @Override
        int looks(int x) {
            ran.add(71);
            return super.looks(x) ^ v;
        }
    }

    private Man manOf(int plan) {
        int v = plans.get(plan).v();
        switch (plans.get(plan).kind()) {
            case 1: return new Rook(plan, v, bodies);
            case 2: return new Bishop(plan, v, bodies);
            case 3: return new King(plan, v, bodies);
            case 4: return new Queen(plan, v, bodies);
            case 5: return new Horse(plan, v, bodies);
            case 6: return new Told(plan, v, bodies);
            default: return new Man(plan, v, bodies);
        }
    }

    int act(int plan, int act, int x) {
        bodies = new ArrayList<>();
        if (noPlan(plan) || act < 0 || act > 2) {
            return 0;
        }
        Man man = manOf(plan);
        return act == 0 ? man.looks(x) : act == 1 ? man.sees(x) : man.tells(x);
    }

    int trace(int i) {
        return i < 0 || i >= Math.min(20, bodies.size()) ? -1 : bodies.get(i);
    }

    int taken(int plan, int k) {
        if (k < 0 || k > 6) {
            return -2;
        }
        if (noPlan(plan)) {
            return -11;
        }
        Class<?>[] kinds = {Man.class, Rook.class, Bishop.class, King.class, Queen.class, Horse.class, Told.class};
        return kinds[k].isInstance(manOf(plan)) ? plans.get(plan).kind() : -12;
    }

    int count(int what) {
        int[] many = {plans.size(), yards, aim.size(), seen.size(), book.size(), text.length(), bodies.size()};
        return what < 0 || what > 6 ? -2 : many[what];
    }

    int tape(int tape, int sort, int n) {
        if (tape < 0 || tape > 5) {
            return -1;
        }
        if (sort == -1) {
            tapes.remove(tape);
            return 1;
        }
        if (sort < -1 || sort > 4 || n > 60) {
            return -2;
        }
        if (n < 0) {
            return -14;
        }
        Object[] rows = {new byte[n], new short[n], new int[n], new long[n], new boolean[n]};
        tapes.put(tape, new Object[] {rows[sort]});
        return 1;
    }

    int item(int tape, int i, long v) {
        if (tape < 0 || tape > 5) {
            return -1;
        }
        if (!tapes.containsKey(tape)) {
            return -11;
        }
        Object row = tapes.get(tape)[0];
        if (i < 0 || i >= java.lang.reflect.Array.getLength(row)) {
            return -13;
        }
        if (row instanceof byte[] r) {
            r[i] = (byte) v;
        } else if (row instanceof short[] r) {
            r[i] = (short) v;
        } else if (row instanceof int[] r) {
            r[i] = (int) v;
        } else if (row instanceof long[] r) {
            r[i] = v;
        } else if (row instanceof boolean[] r) {
            r[i] = v != 0;
        }
        return 1;
    }

    long read(int tape, int i) {
        if (!tapes.containsKey(tape)) {
            return Long.MIN_VALUE;
        }
        Object row = tapes.get(tape)[0];
        if (i < 0 || i >= java.lang.reflect.Array.getLength(row)) {
            return Long.MIN_VALUE;
        }
        return row instanceof boolean[] r ? r[i] ? 1 : 0 : java.lang.reflect.Array.getLong(row, i);
    }

    int shift(int tape, int i, int other, int j, int n) {
        if (tape < 0 || tape > 5 || other < 0 || other > 5) {
            return -1;
        }
        if (!tapes.containsKey(tape) || !tapes.containsKey(other)) {
            return -11;
        }
        try {
            System.arraycopy(tapes.get(tape)[0], i, tapes.get(other)[0], j, n);
        } catch (ArrayStoreException e) {
            return -12;
        } catch (IndexOutOfBoundsException e) {
            return -13;
        }
        return n;
    }
}
