import java.util.Arrays;

/**
 * Men on a board none of whom can see another. The document (DOC.md) says what each call answers.
 * A set of squares is an int: square k is in it, if bit k is 1.
 */
public final class NoneSees {
    public static final int NONE = -1, BAD = -2, STATE = -3, FULL = -4;
    public static final long NO = Long.MIN_VALUE;

    private static final int NOT_ANY = -5, NOT_SO = -9, FAULT = -10;
    private static final int NOTHING = -11, CAST = -12, PLACE = -13, SIZE = -14;

    private static final int ROOK = 1, BISHOP = 2, KING = 3, QUEEN = 4, HORSE = 5, TOLD = 6;
    /** The KIND above each KIND; above MAN there is none. */
    private static final int[] ABOVE = {-1, 0, 0, 0, 1, 2, 3};

    private static final int MOST_WIDE = 5, MOST_SQUARES = 25;
    private static final int MOST_PLANS = 6, MOST_YARDS = 6;
    private static final int HOLDERS = 4, GIVEN_UP = 4, GAME_SQUARES = 9, WALKERS = 5;
    private static final int WHOLE_ROW = 255;

    private final State now;
    private final State kept;
    private boolean imaged;
    private final YardReader reader;
    private final Yard[] yards;
    private final Yard bare;
    private int yardsMade;
    private final Sight menSight;
    private final Sight planSight;
    private final RowSearch rowSearch;
    private final Game match;
    private final Walk walk;
    private final Acts acts;
    private final Tapes tapes;

    public NoneSees() {
        now = new State();
        kept = new State();
        imaged = false;
        reader = new YardReader();
        yards = new Yard[MOST_YARDS];
        for (int i = 0; i < yards.length; i++) {
            yards[i] = new Yard();
        }
        bare = new Yard();
        yardsMade = 0;
        menSight = new Sight();
        planSight = new Sight();
        rowSearch = new RowSearch();
        match = new Game();
        walk = new Walk();
        acts = new Acts();
        tapes = new Tapes();
    }

    // ---- plans, yards, men

    public int plan(int kind, int v) {
        if (!isKind(kind)) {
            return NONE;
        }
        if (v < 0 || v > 9) {
            return BAD;
        }
        if (now.kinds.isFull()) {
            return FULL;
        }
        now.kinds.add(kind);
        now.values.add(v);
        now.rows.add(WHOLE_ROW);
        return now.kinds.size - 1;
    }

    public int of(int plan, int what) {
        if (!isPlan(plan)) {
            return NONE;
        }
        switch (what) {
            case 0: return now.kinds.get(plan);
            case 1: return now.values.get(plan);
            case 2: return now.menOf(plan);
            default: return NONE;
        }
    }

    public int row(int plan, int part, int n) {
        if (!isPlan(plan) || part < 0 || part > 7) {
            return NONE;
        }
        if (n < 0 || n > 1) {
            return BAD;
        }
        if (now.kinds.get(plan) != TOLD) {
            return STATE;
        }
        int before = now.rows.get(plan);
        int bit = 1 << part;
        now.rows.put(plan, n == 1 ? before | bit : before & ~bit);
        return (before & bit) != 0 ? 1 : 0;
    }

    public int feed(int sign) {
        if (sign < 0 || sign > 127) {
            return BAD;
        }
        if (reader.isFull()) {
            return FULL;
        }
        reader.add(sign);
        return reader.length;
    }

    public int yard() {
        if (yardsMade < 0 || yardsMade >= yards.length || yards[yardsMade] == null) {
            return FULL;
        }
        int fault = reader.readClauses(4);
        if (fault < 0) {
            // the WIDE that counts is known at the end alone, so it is read once more by that
            reader.readClauses(reader.wide);
        }
        reader.length = 0;
        if (fault >= 0) {
            return FAULT - fault;
        }
        yards[yardsMade].layOut(reader);
        now.leaveBoard();
        now.holds = yardsMade;
        yardsMade++;
        return now.holds;
    }

    public int told(int what) {
        Yard ground = ground();
        switch (what) {
            case 0: return ground.wide;
            case 1: return ground.round ? 1 : 0;
            case 2: return Integer.bitCount(now.menBits());
            case 3: return ground.holes;
            case 4: return ground.barred;
            case 5: return now.menBits();
            case 6:
                joinMen();
                return menSight.mostJoined() == NOT_ANY ? 1 : 0;
            default: return NONE;
        }
    }

    public int set(int plan, int square) {
        if (!isPlan(plan) || !isSquare(square)) {
            return NONE;
        }
        if (!isIn(openSquares(), square)) {
            return STATE;
        }
        boolean fits = isIn(fitting(plan), square);
        now.putMan(square, plan);
        return fits ? 1 : 0;
    }

    public int take(int square) {
        if (!isSquare(square)) {
            return NONE;
        }
        int plan = now.manOn(square);
        if (plan < 0) {
            return STATE;
        }
        now.putMan(square, State.NOBODY);
        return plan;
    }

    public int at(int square, int what) {
        if (!isSquare(square) || what < 0 || what > 2) {
            return NONE;
        }
        if (what == 1) {
            lookByMen();
            return menSight.seersOf(square);
        }
        int plan = now.manOn(square);
        if (plan < 0) {
            return NOT_ANY;
        }
        return what == 0 ? plan : viewOf(plan, square);
    }

    public int sees(int plan, int square) {
        if (!isPlan(plan) || !isSquare(square)) {
            return NONE;
        }
        return viewOf(plan, square);
    }

    public int clear() {
        int men = Integer.bitCount(now.menBits());
        now.takeAllMen();
        return men;
    }

    // ---- ways

    public int worst() {
        joinMen();
        return menSight.mostJoined();
    }

    public int ways(int plan, int row) {
        if (!isPlan(plan) || row < -1 || row >= ground().wide) {
            return NONE;
        }
        prepareRowSearch(plan);
        rowSearch.countAll();
        return row == -1 ? rowSearch.found : rowSearch.firstAt(row);
    }

    public int after(int plan, int row) {
        if (!isPlan(plan) || row < 0 || row >= ground().wide) {
            return NONE;
        }
        prepareRowSearch(plan);
        if (!rowSearch.startBehind(now.menBits())) {
            return NOT_SO;
        }
        rowSearch.findNext();
        return rowSearch.firstAt(row);
    }

    public int most(int plan) {
        if (!isPlan(plan)) {
            return NONE;
        }
        int free = ground().free();
        lookByPlan(plan);
        planSight.join(free);
        return mostApart(planSight.links, free, 0);
    }

    public int hold(int plan, int what) {
        if (!isPlan(plan) || what < 0 || what > 1) {
            return NONE;
        }
        Yard ground = ground();
        lookByPlan(plan);
        planSight.addOwnSquares();
        int needed = ground.all() & ~ground.holes;
        int byOne = planSight.mostSeen();
        for (int men = 1; men <= HOLDERS; men++) {
            int set = leastHolders(planSight.views, ground.free(), needed, byOne, MOST_SQUARES, men);
            if (set >= 0) {
                return what == 0 ? men : set;
            }
        }
        return NOT_ANY;
    }

    public int more(int plan) {
        return isPlan(plan) ? fitting(plan) : NONE;
    }

    public int right(int what) {
        if (what < 0 || what > 1) {
            return NONE;
        }
        joinMen();
        for (int men = 0; men <= GIVEN_UP; men++) {
            int set = leastRemoved(menSight.links, now.menBits(), men);
            if (set >= 0) {
                return what == 0 ? men : set;
            }
        }
        return NOT_ANY;
    }

    public int game(int plan) {
        if (!isPlan(plan)) {
            return NONE;
        }
        int squares = fitting(plan);
        if (Integer.bitCount(squares) > GAME_SQUARES) {
            return NOT_SO;
        }
        planSight.join(squares);
        return match.firstWins(squares, planSight.links) ? 1 : 0;
    }

    // ---- turned, reached, rubbed

    public int turned(int how) {
        if (how < 0 || how > 7) {
            return NONE;
        }
        return looksSame(how) ? 1 : 0;
    }

    public int alike() {
        int same = 0;
        for (int how = 0; how < 8; how++) {
            if (looksSame(how)) {
                same++;
            }
        }
        return same;
    }

    public int aim(int square) {
        if (square == -1) {
            now.aim.drop();
            return 0;
        }
        if (!isSquare(square)) {
            return NONE;
        }
        if (now.aim.contains(square)) {
            return BAD;
        }
        if (now.aim.isFull()) {
            return FULL;
        }
        now.aim.add(square);
        return now.aim.size;
    }

    public int reach() {
        int men = now.menBits();
        if (Integer.bitCount(men) > WALKERS) {
            return NOT_SO;
        }
        if (Integer.bitCount(men) != now.aim.size) {
            return NOT_ANY;
        }
        return walk.fewestSteps(ground(), men, now.aim);
    }

    public int see(int square, int n) {
        if (square == -1) {
            now.dropSeen();
            return 0;
        }
        if (!isSquare(square)) {
            return NONE;
        }
        if (n < 0 || n > 25) {
            return BAD;
        }
        if (now.seenSquares.isFull()) {
            return FULL;
        }
        now.seenSquares.add(square);
        now.seenNumbers.add(n);
        return now.seenSquares.size;
    }

    public int rubbed(int plan) {
        if (!isPlan(plan)) {
            return NONE;
        }
        lookByMen();
        lookByPlan(plan);
        int open = openSquares();
        int squares = 0;
        for (int square = 0; square < MOST_SQUARES; square++) {
            if (isIn(open, square) && makesSeenSo(planSight.viewFrom(square))) {
                squares |= 1 << square;
            }
        }
        return squares;
    }

    // ---- odds, books

    public long odds(int plan, int part) {
        if (!isPlan(plan)) {
            return NO;
        }
        return fraction(Integer.bitCount(fitting(plan)), Integer.bitCount(openSquares()), part);
    }

    public long mean(int part) {
        lookByMen();
        return fraction(menSight.allSeen(), Integer.bitCount(now.menBits()), part);
    }

    public int book(int square) {
        if (square == -1) {
            now.book.drop();
            return 0;
        }
        if (!isSquare(square)) {
            return NONE;
        }
        if (now.book.isFull()) {
            return FULL;
        }
        now.book.add(square);
        return now.book.size;
    }

    public int looked() {
        for (int i = 0; i < now.book.size; i++) {
            if (now.manOn(now.book.get(i)) < 0) {
                return i;
            }
        }
        return NOT_ANY;
    }

    // ---- judging, the image, acts, tapes

    public int judge(int tape, int i) {
        if (!tapes.isTape(tape)) {
            return NONE;
        }
        if (tapes.holdsNothing(tape)) {
            return 100;
        }
        if (tapes.sortOf(tape) != Tapes.BOOLEANS) {
            return CAST;
        }
        return judged(tape, i);
    }

    public int image() {
        kept.becomes(now);
        imaged = true;
        return now.kinds.size;
    }

    public int undo() {
        if (!imaged) {
            return STATE;
        }
        now.becomes(kept);
        return now.kinds.size;
    }

    public int act(int plan, int act, int x) {
        acts.forget();
        if (!isPlan(plan) || act < 0 || act > 2) {
            return 0;
        }
        return acts.start(plan, now.kinds.get(plan), now.values.get(plan), act, x);
    }

    public int trace(int i) {
        if (i < 0 || i >= acts.bodies.size) {
            return NONE;
        }
        return acts.bodies.get(i);
    }

    public int taken(int plan, int k) {
        if (!isKind(k)) {
            return BAD;
        }
        if (!isPlan(plan)) {
            return NOTHING;
        }
        int kind = now.kinds.get(plan);
        return isUnder(kind, k) ? kind : CAST;
    }

    public int count(int what) {
        switch (what) {
            case 0: return now.kinds.size;
            case 1: return yardsMade;
            case 2: return now.aim.size;
            case 3: return now.seenSquares.size;
            case 4: return now.book.size;
            case 5: return reader.length;
            case 6: return acts.ran;
            default: return BAD;
        }
    }

    public int tape(int tape, int sort, int n) {
        if (!tapes.isTape(tape)) {
            return NONE;
        }
        if (sort == Tapes.NO_SORT) {
            tapes.become(tape, sort, 0);
            return 1;
        }
        if (sort < 0 || sort > Tapes.BOOLEANS || n > Tapes.ROOM) {
            return BAD;
        }
        if (n < 0) {
            return SIZE;
        }
        tapes.become(tape, sort, n);
        return 1;
    }

    public int item(int tape, int i, long v) {
        if (!tapes.isTape(tape)) {
            return NONE;
        }
        if (tapes.holdsNothing(tape)) {
            return NOTHING;
        }
        if (!tapes.isPlace(tape, i)) {
            return PLACE;
        }
        tapes.put(tape, i, v);
        return 1;
    }

    public long read(int tape, int i) {
        if (!tapes.isTape(tape) || !tapes.isPlace(tape, i)) {
            return NO;
        }
        return tapes.get(tape, i);
    }

    public int shift(int tape, int i, int other, int j, int n) {
        if (!tapes.isTape(tape) || !tapes.isTape(other)) {
            return NONE;
        }
        if (tapes.holdsNothing(tape) || tapes.holdsNothing(other)) {
            return NOTHING;
        }
        if (tapes.sortOf(tape) != tapes.sortOf(other)) {
            return CAST;
        }
        if (!tapes.hasRun(tape, i, n) || !tapes.hasRun(other, j, n)) {
            return PLACE;
        }
        tapes.move(tape, i, other, j, n);
        return n;
    }

    // ---- what the calls share

    private static boolean isIn(int squares, int square) {
        return square >= 0 && square < MOST_SQUARES && (squares >> square & 1) != 0;
    }

    private static int allSquares(int wide) {
        return wide < 0 || wide > MOST_WIDE ? 0 : (1 << wide * wide) - 1;
    }

    private static boolean isKind(int kind) {
        return kind >= 0 && kind < ABOVE.length;
    }

    private static boolean isUnder(int kind, int k) {
        int above = kind;
        for (int i = 0; i < ABOVE.length && isKind(above); i++) {
            if (above == k) {
                return true;
            }
            above = ABOVE[above];
        }
        return false;
    }

    private boolean isPlan(int plan) {
        return plan >= 0 && plan < now.kinds.size;
    }

    private boolean isSquare(int square) {
        Yard ground = ground();
        return square >= 0 && square < ground.wide * ground.wide;
    }

    private Yard ground() {
        if (now.holds < 0 || now.holds >= yards.length || yards[now.holds] == null) {
            return bare;
        }
        return yards[now.holds];
    }

    /** The squares where a MAN may be SET. */
    private int openSquares() {
        return ground().free() & ~now.menBits();
    }

    private int viewOf(int plan, int square) {
        return ground().view(now.kinds.get(plan), now.values.get(plan), now.rows.get(plan), square);
    }

    private void lookByMen() {
        for (int square = 0; square < MOST_SQUARES; square++) {
            int plan = now.manOn(square);
            menSight.put(square, plan < 0 ? 0 : viewOf(plan, square));
        }
    }

    private void lookByPlan(int plan) {
        int all = ground().all();
        for (int square = 0; square < MOST_SQUARES; square++) {
            planSight.put(square, isIn(all, square) ? viewOf(plan, square) : 0);
        }
    }

    private void joinMen() {
        lookByMen();
        menSight.join(now.menBits());
    }

    /** MORE of a PLAN; what the PLAN SEES from each square is in planSight then. */
    private int fitting(int plan) {
        lookByMen();
        lookByPlan(plan);
        int men = now.menBits();
        int unseen = openSquares() & ~menSight.together();
        int squares = 0;
        for (int square = 0; square < MOST_SQUARES; square++) {
            if (isIn(unseen, square) && (planSight.viewFrom(square) & men) == 0) {
                squares |= 1 << square;
            }
        }
        return squares;
    }

    private void prepareRowSearch(int plan) {
        Yard ground = ground();
        lookByPlan(plan);
        planSight.join(ground.free());
        rowSearch.prepare(ground.wide, ground.free(), planSight.links);
    }

    private boolean looksSame(int how) {
        int men = now.menBits();
        return ground().turn(men, how) == men;
    }

    private boolean makesSeenSo(int view) {
        for (int i = 0; i < now.seenSquares.size; i++) {
            int square = now.seenSquares.get(i);
            int seers = menSight.seersOf(square) + (isIn(view, square) ? 1 : 0);
            if (seers != now.seenNumbers.get(i)) {
                return false;
            }
        }
        return true;
    }

    private int judged(int tape, int start) {
        int squares = ground().wide * ground().wide;
        for (int square = 0; square < squares; square++) {
            // start is looked at first, as start + square could wrap
            if (start < 0 || start >= Tapes.ROOM || !tapes.isPlace(tape, start + square)) {
                return 100 + square;
            }
            boolean man = now.manOn(square) >= 0;
            if (man != (tapes.get(tape, start + square) != 0)) {
                return square;
            }
        }
        return NOT_ANY;
    }

    private static long fraction(int above, int below, int part) {
        if (below < 1 || part < 0 || part > 1) {
            return NO;
        }
        int divisor = below;
        int rest = above;
        for (int i = 0; i < 64 && rest != 0; i++) {
            int next = divisor % rest;
            divisor = rest;
            rest = next;
        }
        if (divisor < 1) {
            return NO;
        }
        return part == 0 ? above / divisor : below / divisor;
    }

    /** How many of the squares left can be taken so that no two are linked. */
    private static int mostApart(int[] links, int squares, int depth) {
        int left = squares;
        int apart = 0;
        for (int i = 0; i < MOST_SQUARES && left != 0; i++) {
            int square = leastLinked(links, left);
            if (!isIn(left, square) || Integer.bitCount(links[square] & left) > 1) {
                break;
            }
            // a square with at most one neighbour is in some largest set
            apart++;
            left &= ~(links[square] | 1 << square);
        }
        int busy = mostLinked(links, left);
        if (!isIn(left, busy) || depth > MOST_SQUARES) {
            return apart;
        }
        int with = 1 + mostApart(links, left & ~(links[busy] | 1 << busy), depth + 1);
        int without = mostApart(links, left & ~(1 << busy), depth + 1);
        return apart + Math.max(with, without);
    }

    private static int leastLinked(int[] links, int left) {
        int best = -1;
        int fewest = MOST_SQUARES + 1;
        for (int square = 0; square < links.length; square++) {
            if (isIn(left, square) && Integer.bitCount(links[square] & left) < fewest) {
                fewest = Integer.bitCount(links[square] & left);
                best = square;
            }
        }
        return best;
    }

    private static int mostLinked(int[] links, int left) {
        int best = -1;
        int most = -1;
        for (int square = 0; square < links.length; square++) {
            if (isIn(left, square) && Integer.bitCount(links[square] & left) > most) {
                most = Integer.bitCount(links[square] & left);
                best = square;
            }
        }
        return best;
    }

    /**
     * The least set, as bits, of so many free squares below a bound that hold all that is needed, where one
     * holds byOne at the most; -1: none. The highest square is chosen first and upwards, so that the first
     * set found is the least.
     */
    private static int leastHolders(int[] held, int free, int needed, int byOne, int bound, int men) {
        if (men <= 0 || Integer.bitCount(needed) > men * byOne) {
            return men == 0 && needed == 0 ? 0 : -1;
        }
        for (int square = 0; square < bound && square < held.length; square++) {
            if (isIn(free, square)) {
                int others = leastHolders(held, free, needed & ~held[square], byOne, square, men - 1);
                if (others >= 0) {
                    return others | 1 << square;
                }
            }
        }
        return -1;
    }

    /**
     * The least set, as bits, of at most so many men without whom no two left are linked; -1: none.
     * Of two linked men one must go; asked with the fewest men that do, each set found has just so many.
     */
    private static int leastRemoved(int[] links, int left, int men) {
        int one = mostLinked(links, left);
        if (!isIn(left, one) || (links[one] & left) == 0) {
            return 0;
        }
        if (men <= 0) {
            return -1;
        }
        int other = mostLinked(links, links[one] & left);
        int first = leastRemoved(links, left & ~(1 << one), men - 1);
        int second = leastRemoved(links, left & ~(1 << other), men - 1);
        int withOne = first < 0 ? -1 : first | 1 << one;
        int withOther = second < 0 ? -1 : second | 1 << other;
        if (withOne < 0 || withOther < 0) {
            return Math.max(withOne, withOther);
        }
        return Math.min(withOne, withOther);
    }

    /** A short row of numbers that grows item by item; no index leads out of it. */
    private static final class Pile {
        final int[] items;
        int size;

        Pile(int room) {
            items = new int[Math.max(room, 0)];
            size = 0;
        }

        boolean isFull() {
            return size >= items.length;
        }

        void add(int n) {
            if (size >= 0 && size < items.length) {
                items[size] = n;
                size++;
            }
        }

        int get(int i) {
            return i < 0 || i >= size || i >= items.length ? 0 : items[i];
        }

        void put(int i, int n) {
            if (i >= 0 && i < size && i < items.length) {
                items[i] = n;
            }
        }

        boolean contains(int n) {
            for (int i = 0; i < size && i < items.length; i++) {
                if (items[i] == n) {
                    return true;
                }
            }
            return false;
        }

        void drop() {
            size = 0;
        }

        void becomes(Pile other) {
            size = 0;
            for (int i = 0; i < other.size; i++) {
                add(other.get(i));
            }
        }
    }

    /** All that THE IMAGE keeps. */
    private static final class State {
        static final int NOBODY = -1;

        final Pile kinds = new Pile(MOST_PLANS);
        final Pile values = new Pile(MOST_PLANS);
        /** The ROW of each PLAN, way k as bit k. */
        final Pile rows = new Pile(MOST_PLANS);
        final int[] men = new int[MOST_SQUARES];
        final Pile aim = new Pile(5);
        final Pile seenSquares = new Pile(8);
        final Pile seenNumbers = new Pile(8);
        final Pile book = new Pile(12);
        /** The number of the YARD that holds; -1: none. */
        int holds = -1;

        State() {
            Arrays.fill(men, NOBODY);
        }

        int manOn(int square) {
            return square < 0 || square >= men.length ? NOBODY : men[square];
        }

        void putMan(int square, int plan) {
            if (square >= 0 && square < men.length) {
                men[square] = plan;
            }
        }

        void takeAllMen() {
            Arrays.fill(men, NOBODY);
        }

        int menBits() {
            int bits = 0;
            for (int square = 0; square < men.length; square++) {
                if (men[square] != NOBODY) {
                    bits |= 1 << square;
                }
            }
            return bits;
        }

        int menOf(int plan) {
            int many = 0;
            for (int square = 0; square < men.length; square++) {
                if (men[square] == plan) {
                    many++;
                }
            }
            return many;
        }

        void dropSeen() {
            seenSquares.drop();
            seenNumbers.drop();
        }

        /** What stands or was told square by square goes when THE BOARD becomes another one. */
        void leaveBoard() {
            takeAllMen();
            aim.drop();
            dropSeen();
            book.drop();
        }

        void becomes(State other) {
            kinds.becomes(other.kinds);
            values.becomes(other.values);
            rows.becomes(other.rows);
            for (int square = 0; square < men.length; square++) {
                men[square] = other.manOn(square);
            }
            aim.becomes(other.aim);
            seenSquares.becomes(other.seenSquares);
            seenNumbers.becomes(other.seenNumbers);
            book.becomes(other.book);
            holds = other.holds;
        }
    }

    /** THE BOARD as a YARD makes it. */
    private static final class Yard {
        /** Where the ways lead: 0 .. 3 straight, 4 .. 7 aslant, as the ROW counts them; 8 .. 15 leaps. */
        static final int[] STEP_X = {1, 0, -1, 0, 1, -1, -1, 1, 1, 1, -1, -1, 2, 2, -2, -2};
        static final int[] STEP_Y = {0, 1, 0, -1, 1, 1, -1, -1, 2, -2, 2, -2, 1, -1, 1, -1};
        static final int STRAIGHT = 0x000F, ASLANT = 0x00F0, LEAPS = 0xFF00;

        int wide = 4;
        boolean round = false;
        int holes = 0;
        int barred = 0;

        void layOut(YardReader read) {
            wide = read.wide;
            round = read.round;
            holes = read.holes;
            barred = read.holes | read.bars;
        }

        int all() {
            return allSquares(wide);
        }

        /** The squares that are not BARRED. */
        int free() {
            return all() & ~barred;
        }

        int view(int kind, int v, int row, int square) {
            boolean leaping = kind == HORSE && v > 4;
            int far = kind == KING || kind == TOLD || leaping ? 1 : MOST_WIDE;
            int ways = leaping ? LEAPS : kind == TOLD ? row & WHOLE_ROW : waysOf(kind);
            int seen = 0;
            for (int way = 0; way < STEP_X.length && way < STEP_Y.length; way++) {
                if ((ways >> way & 1) != 0) {
                    seen |= lookAlong(square, STEP_X[way], STEP_Y[way], far);
                }
            }
            return seen;
        }

        private int waysOf(int kind) {
            switch (kind) {
                case ROOK: return STRAIGHT;
                case BISHOP: return ASLANT;
                case HORSE: return ASLANT;
                case KING: return STRAIGHT | ASLANT;
                case QUEEN: return STRAIGHT | ASLANT;
                default: return 0;
            }
        }

        private int lookAlong(int square, int stepX, int stepY, int far) {
            int x = xOf(square);
            int y = yOf(square);
            int seen = 0;
            for (int i = 0; i < far; i++) {
                x = goOn(x + stepX);
                y = goOn(y + stepY);
                int next = y * wide + x;
                if (x < 0 || y < 0 || next == square || isIn(holes, next)) {
                    break;
                }
                seen |= 1 << next;
            }
            return seen;
        }

        /** An x or y come to by a step: behind THE BOARD's end the other end, if ROUND; else -1. */
        private int goOn(int to) {
            if (to >= 0 && to < wide) {
                return to;
            }
            return round && wide > 0 ? Math.floorMod(to, wide) : -1;
        }

        int xOf(int square) {
            return wide < 1 ? 0 : square % wide;
        }

        int yOf(int square) {
            return wide < 1 ? 0 : square / wide;
        }

        /** Where the squares come to be, turned by how. */
        int turn(int squares, int how) {
            int last = wide - 1;
            int turned = 0;
            for (int square = 0; square < MOST_SQUARES; square++) {
                if (isIn(squares, square)) {
                    int x = how >= 4 ? last - xOf(square) : xOf(square);
                    int y = yOf(square);
                    for (int i = 0; i < (how & 3); i++) {
                        int before = x;
                        x = last - y;
                        y = before;
                    }
                    turned |= 1 << y * wide + x;
                }
            }
            return turned;
        }

        /** The squares and all that are one step from them. */
        int spread(int squares) {
            int first = 0;
            for (int y = 0; y < wide; y++) {
                first |= 1 << y * wide;
            }
            int last = first << wide - 1;
            int along = (squares & ~last) << 1 | (squares & ~first) >> 1;
            int across = squares << wide | squares >> wide;
            return squares | (along | across) & free();
        }
    }

    /** THE TEXT, and reads it. The place stays at the first byte that does not go on a YARD. */
    private static final class YardReader {
        static final int MOST_CLAUSES = 10, MOST_WITHIN = 4, END = -1;

        final byte[] signs = new byte[100];
        int length = 0;
        int wide = 4;
        boolean round = false;
        int holes = 0;
        int bars = 0;
        private int place = 0;
        /** The sign at the place. */
        private int sign = END;
        private boolean faulty = false;
        /** The WIDE that the TESTS go by. */
        private int ground = 4;

        boolean isFull() {
            return length >= signs.length;
        }

        void add(int next) {
            if (length >= 0 && length < signs.length) {
                signs[length] = (byte) next;
                length++;
            }
        }

        /** The FAULT of THE TEXT; -1: it is a YARD, with TESTS by this WIDE. */
        int readClauses(int byWide) {
            ground = byWide;
            wide = 4;
            round = false;
            holes = 0;
            bars = 0;
            faulty = false;
            moveTo(0);
            readClause();
            for (int i = 1; i < MOST_CLAUSES && sign == ';' && !faulty; i++) {
                moveTo(place + 1);
                readClause();
            }
            return faulty || sign != END ? place : -1;
        }

        private void moveTo(int to) {
            place = to;
            sign = to >= 0 && to < length && to < signs.length ? signs[to] : END;
        }

        private void readClause() {
            switch (sign) {
                case 'w':
                    readWord("wide ");
                    wide = Math.min(Math.max(readNumber(), 2), MOST_WIDE);
                    break;
                case 'h':
                    readWord("hole ");
                    holes |= readAny(0);
                    break;
                case 'b':
                    readWord("bar ");
                    bars |= readAny(0);
                    break;
                case 'r':
                    readWord("round");
                    round = true;
                    break;
                default:
                    readWord("flat");
                    round = false;
                    break;
            }
        }

        private void readWord(String word) {
            for (int i = 0; i < word.length() && !faulty; i++) {
                if (sign == word.charAt(i)) {
                    moveTo(place + 1);
                } else {
                    faulty = true;
                }
            }
        }

        private int readNumber() {
            if (faulty || sign < '0' || sign > '9') {
                faulty = true;
                return 0;
            }
            int n = sign - '0';
            moveTo(place + 1);
            if (sign >= '0' && sign <= '9') {
                n = n * 10 + sign - '0';
                moveTo(place + 1);
            }
            return n;
        }

        /** E: the squares of which it holds; so many ( and ! are around it. */
        private int readAny(int within) {
            int any = 0;
            int both = readOne(within);
            for (int i = 0; i < signs.length && !faulty && (sign == '|' || sign == '&'); i++) {
                if (sign == '|') {
                    any |= both;
                    both = allSquares(ground);
                }
                moveTo(place + 1);
                both &= readOne(within);
            }
            return any | both;
        }

        /** F. */
        private int readOne(int within) {
            boolean not = sign == '!';
            if (faulty || within >= MOST_WITHIN || !not && sign != '(') {
                return readTest();
            }
            moveTo(place + 1);
            if (not) {
                return allSquares(ground) & ~readOne(within + 1);
            }
            int squares = readAny(within + 1);
            if (!faulty) {
                readWord(")");
            }
            return squares;
        }

        private int readTest() {
            int letter = sign;
            if (faulty || !isLetter(letter)) {
                faulty = true;
                return 0;
            }
            moveTo(place + 1);
            int order = sign;
            if (order != '<' && order != '=' && order != '>') {
                faulty = true;
                return 0;
            }
            moveTo(place + 1);
            int n = readNumber();
            return faulty ? 0 : squaresOf(letter, order, n);
        }

        private boolean isLetter(int s) {
            return s == 'x' || s == 'y' || s == 's' || s == 'd' || s == 'n' || s == 'w';
        }

        private int squaresOf(int letter, int order, int n) {
            int squares = 0;
            for (int y = 0; y < ground; y++) {
                for (int x = 0; x < ground; x++) {
                    int number = numberOf(letter, x, y);
                    if (order == '<' && number < n || order == '=' && number == n || order == '>' && number > n) {
                        squares |= 1 << y * ground + x;
                    }
                }
            }
            return squares;
        }

        private int numberOf(int letter, int x, int y) {
            switch (letter) {
                case 'x': return x;
                case 'y': return y;
                case 's': return x + y;
                case 'd': return x < y ? y - x : x - y;
                case 'n': return y * ground + x;
                default: return ground;
            }
        }
    }

    /** What is SEEN from each square, and which squares are linked: one SEES the other. */
    private static final class Sight {
        final int[] views = new int[MOST_SQUARES];
        final int[] links = new int[MOST_SQUARES];

        void put(int square, int view) {
            if (square >= 0 && square < views.length) {
                views[square] = view;
            }
        }

        int viewFrom(int square) {
            return square < 0 || square >= views.length ? 0 : views[square];
        }

        int seersOf(int square) {
            int seers = 0;
            for (int from = 0; from < views.length; from++) {
                if (isIn(views[from], square)) {
                    seers++;
                }
            }
            return seers;
        }

        int together() {
            int squares = 0;
            for (int from = 0; from < views.length; from++) {
                squares |= views[from];
            }
            return squares;
        }

        int allSeen() {
            int many = 0;
            for (int from = 0; from < views.length; from++) {
                many += Integer.bitCount(views[from]);
            }
            return many;
        }

        int mostSeen() {
            int most = 0;
            for (int from = 0; from < views.length; from++) {
                most = Math.max(most, Integer.bitCount(views[from]));
            }
            return most;
        }

        void addOwnSquares() {
            for (int from = 0; from < views.length; from++) {
                views[from] |= 1 << from;
            }
        }

        /** Links the squares of a set among each other. */
        void join(int squares) {
            for (int from = 0; from < links.length; from++) {
                links[from] = isIn(squares, from) ? viewFrom(from) & squares : 0;
            }
            for (int from = 0; from < views.length; from++) {
                for (int to = 0; to < links.length; to++) {
                    if (isIn(squares, from) && isIn(squares, to) && isIn(views[from], to)) {
                        links[to] |= 1 << from;
                    }
                }
            }
        }

        /** The square with most links, of several the least; -5: there are no links. */
        int mostJoined() {
            int best = NOT_ANY;
            int most = 0;
            for (int square = 0; square < links.length; square++) {
                if (Integer.bitCount(links[square]) > most) {
                    most = Integer.bitCount(links[square]);
                    best = square;
                }
            }
            return best;
        }
    }

    /** Finds the WAYS, in their order as rows of x. */
    private static final class RowSearch {
        private final int[] links = new int[MOST_SQUARES];
        private final int[] behind = new int[MOST_WIDE];
        private final int[] path = new int[MOST_WIDE];
        private final int[] first = new int[MOST_WIDE];
        private int wide = 0;
        private int free = 0;
        private boolean oneIsEnough = false;
        int found = 0;

        void prepare(int byWide, int freeSquares, int[] linked) {
            wide = Math.min(byWide, MOST_WIDE);
            free = freeSquares;
            found = 0;
            for (int square = 0; square < links.length; square++) {
                links[square] = square < linked.length ? linked[square] : 0;
            }
        }

        /** Whether there is just one man in each row, behind whose x the search begins then. */
        boolean startBehind(int men) {
            for (int y = 0; y < wide && y < behind.length; y++) {
                int many = 0;
                for (int x = 0; x < wide; x++) {
                    if (isIn(men, y * wide + x)) {
                        behind[y] = x;
                        many++;
                    }
                }
                if (many != 1) {
                    return false;
                }
            }
            return true;
        }

        void countAll() {
            oneIsEnough = false;
            goOn(0, 0, false);
        }

        void findNext() {
            oneIsEnough = true;
            goOn(0, 0, true);
        }

        int firstAt(int row) {
            return found < 1 || row < 0 || row >= first.length ? NOT_ANY : first[row];
        }

        /** From row y on; level: all rows before are as those to be behind of. */
        private void goOn(int y, int shut, boolean level) {
            if (y < 0 || y >= wide || y >= path.length || y >= behind.length) {
                return;
            }
            for (int x = level ? behind[y] : 0; x < wide; x++) {
                int square = y * wide + x;
                if (isIn(free & ~shut, square) && !(oneIsEnough && found > 0)) {
                    path[y] = x;
                    goBehind(y, shut | links[square], level && x == behind[y]);
                }
            }
        }

        /** Row y has its man now; level: up to it all rows are as those to be behind of. */
        private void goBehind(int y, int shut, boolean level) {
            if (y < wide - 1) {
                goOn(y + 1, shut, level);
            } else if (!level) {
                noteWay();
            }
        }

        private void noteWay() {
            for (int y = 0; y < wide && y < first.length && found == 0; y++) {
                first[y] = path[y];
            }
            found++;
        }
    }

    /** Two who take squares by turns, by which linked ones go too. */
    private static final class Game {
        private final int[] spots = new int[GAME_SQUARES];
        private final int[] gone = new int[GAME_SQUARES];
        private final byte[] wins = new byte[1 << GAME_SQUARES];

        boolean firstWins(int squares, int[] links) {
            int many = gather(squares);
            for (int i = 0; i < many && i < gone.length && i < spots.length; i++) {
                gone[i] = goneBy(spots[i], links, many);
            }
            int whole = (1 << many) - 1;
            // who is to move wins, if some move leaves a set by which the other one loses
            for (int set = 0; set <= whole && set < wins.length; set++) {
                wins[set] = 0;
                for (int i = 0; i < many && i < gone.length; i++) {
                    if ((set >> i & 1) != 0 && wins[set & ~gone[i]] == 0) {
                        wins[set] = 1;
                    }
                }
            }
            return whole < wins.length && wins[whole] != 0;
        }

        private int gather(int squares) {
            int many = 0;
            for (int square = 0; square < MOST_SQUARES; square++) {
                if (isIn(squares, square) && many < spots.length) {
                    spots[many] = square;
                    many++;
                }
            }
            return many;
        }

        private int goneBy(int square, int[] links, int many) {
            int linked = square < 0 || square >= links.length ? 0 : links[square];
            int set = 0;
            for (int i = 0; i < many && i < spots.length; i++) {
                if (spots[i] == square || isIn(linked, spots[i])) {
                    set |= 1 << i;
                }
            }
            return set;
        }
    }

    /** Brings men step by step to THE AIM. */
    private static final class Walk {
        static final int FAR = 1000000;

        private final int[] steps = new int[MOST_SQUARES];
        /** The fewest steps by which the men so far come to a set of THE AIM's places. */
        private final int[] fewest = new int[1 << WALKERS];

        int fewestSteps(Yard ground, int men, Pile aim) {
            Arrays.fill(fewest, FAR);
            fewest[0] = 0;
            int brought = 0;
            for (int square = 0; square < MOST_SQUARES; square++) {
                if (isIn(men, square)) {
                    measure(ground, square);
                    bring(brought, aim);
                    brought++;
                }
            }
            int whole = (1 << aim.size) - 1;
            if (whole < 0 || whole >= fewest.length || fewest[whole] >= FAR) {
                return NOT_ANY;
            }
            return fewest[whole];
        }

        private void measure(Yard ground, int from) {
            Arrays.fill(steps, FAR);
            int reached = 1 << from;
            for (int far = 0; far < MOST_SQUARES; far++) {
                for (int square = 0; square < steps.length; square++) {
                    if (isIn(reached, square) && steps[square] == FAR) {
                        steps[square] = far;
                    }
                }
                reached = ground.spread(reached);
            }
        }

        private void bring(int brought, Pile aim) {
            for (int set = 0; set < fewest.length; set++) {
                if (Integer.bitCount(set) == brought && fewest[set] < FAR) {
                    bringOne(set, aim);
                }
            }
        }

        private void bringOne(int set, Pile aim) {
            for (int i = 0; i < aim.size; i++) {
                int to = aim.get(i);
                int with = set | 1 << i;
                if (with != set && with < fewest.length && to >= 0 && to < steps.length) {
                    fewest[with] = Math.min(fewest[with], fewest[set] + steps[to]);
                }
            }
        }
    }

    /** Runs the BODIES of a PLAN and keeps THE TRACE. */
    private static final class Acts {
        static final int LOOKS = 0, SEES = 1, TELLS = 2, MOST_DEEP = 40;
        /** The number of each KIND's body for looks, sees, tells; 0: it has none. */
        static final int[] BODIES = {
            10, 11, 12,
            0, 20, 0,
            30, 0, 0,
            0, 0, 40,
            50, 51, 0,
            0, 0, 60,
            71, 70, 0,
        };

        final Pile bodies = new Pile(20);
        int ran = 0;
        private int number = 0;
        private int kind = 0;
        private int value = 0;

        void forget() {
            bodies.drop();
            ran = 0;
        }

        int start(int planNumber, int planKind, int v, int act, int x) {
            number = planNumber;
            kind = planKind;
            value = v;
            return run(planKind, act, x, 0);
        }

        /** An act by the first KIND, from one upward, that has a body for it. */
        private int run(int from, int act, int x, int depth) {
            int owner = from;
            for (int i = 0; i < ABOVE.length && isKind(owner) && bodyOf(owner, act) == 0; i++) {
                owner = ABOVE[owner];
            }
            if (!isKind(owner) || depth > MOST_DEEP) {
                return 0;
            }
            int body = bodyOf(owner, act);
            bodies.add(body);
            ran++;
            return answerOf(body, ABOVE[owner], x, depth + 1);
        }

        /** What a body answers; above: the KIND above the one whose body it is. */
        private int answerOf(int body, int above, int x, int depth) {
            switch (body) {
                case 10: return x + number;
                case 11: return run(kind, LOOKS, x, depth) - value;
                case 12: return run(kind, SEES, x, depth) * 2;
                case 20: return run(above, SEES, x, depth) ^ 6;
                case 30: return run(above, LOOKS, x * 3, depth);
                case 40: return run(above, TELLS, x, depth) + run(kind, SEES, 1, depth);
                case 50: return -run(above, LOOKS, x, depth);
                case 51: return run(above, SEES, x + 1, depth);
                case 60: return run(above, TELLS, x - number, depth);
                case 70: return run(above, SEES, x, depth) + run(above, LOOKS, 2, depth);
                case 71: return run(above, LOOKS, x, depth) ^ value;
                default: return 0;
            }
        }

        private static int bodyOf(int owner, int act) {
            int i = owner * 3 + act;
            return act < 0 || act > 2 || i < 0 || i >= BODIES.length ? 0 : BODIES[i];
        }
    }

    /** Six rows of numbers, side by side in one. */
    private static final class Tapes {
        static final int NO_SORT = -1, BYTES = 0, SHORTS = 1, INTS = 2, BOOLEANS = 4;
        static final int TAPES = 6, ROOM = 60;

        private final int[] sorts = new int[TAPES];
        private final int[] sizes = new int[TAPES];
        private final long[] items = new long[TAPES * ROOM];

        Tapes() {
            Arrays.fill(sorts, NO_SORT);
        }

        boolean isTape(int tape) {
            return tape >= 0 && tape < TAPES;
        }

        int sortOf(int tape) {
            return tape < 0 || tape >= sorts.length ? NO_SORT : sorts[tape];
        }

        boolean holdsNothing(int tape) {
            return sortOf(tape) == NO_SORT;
        }

        private int sizeOf(int tape) {
            return tape < 0 || tape >= sizes.length ? 0 : sizes[tape];
        }

        boolean isPlace(int tape, int i) {
            return i >= 0 && i < sizeOf(tape);
        }

        /** Whether there are n items from i on. */
        boolean hasRun(int tape, int i, int n) {
            return n >= 0 && i >= 0 && n <= sizeOf(tape) && i <= sizeOf(tape) - n;
        }

        void become(int tape, int sort, int n) {
            if (tape < 0 || tape >= sorts.length || tape >= sizes.length) {
                return;
            }
            sorts[tape] = sort;
            sizes[tape] = Math.min(Math.max(n, 0), ROOM);
            for (int i = 0; i < ROOM; i++) {
                items[tape * ROOM + i] = 0;
            }
        }

        void put(int tape, int i, long v) {
            if (isTape(tape) && isPlace(tape, i)) {
                items[tape * ROOM + i] = fitted(sortOf(tape), v);
            }
        }

        private static long fitted(int sort, long v) {
            switch (sort) {
                case BYTES: return (byte) v;
                case SHORTS: return (short) v;
                case INTS: return (int) v;
                case BOOLEANS: return v != 0 ? 1 : 0;
                default: return v;
            }
        }

        long get(int tape, int i) {
            return isTape(tape) && isPlace(tape, i) ? items[tape * ROOM + i] : 0;
        }

        void move(int tape, int i, int other, int j, int n) {
            if (isTape(tape) && isTape(other) && hasRun(tape, i, n) && hasRun(other, j, n)) {
                System.arraycopy(items, tape * ROOM + i, items, other * ROOM + j, n);
            }
        }
    }
}
