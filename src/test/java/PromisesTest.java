/** The promises, each whole, from the first one to the last: one object, led through them all. */
public final class PromisesTest {
    private static final int NONE = -1, BAD = -2, STATE = -3, FULL = -4;
    private static final int NOTHING = -11, CAST = -12, PLACE = -13, SIZE = -14;
    private static final long NO = Long.MIN_VALUE;

    private static final Due d = new Due();
    private static NoneSees x = null;

    public static void main(String[] args) {
        plansAndYards();
        men();
        ways();
        mostToGame();
        turnedToRubbed();
        oddsAndBooks();
        judgedToUndone();
        actsAndCounts();
        tapes();
        d.finish();
    }

    private static void plansAndYards() {
        d.says(1, "An empty BOARD of 4, no PLANS, no YARD.");
        x = new NoneSees();
        d.due("men", x.told(2), 0);
        d.due("wide", x.told(0), 4);
        d.due("plans", x.count(0), 0);
        d.due("yards", x.count(1), 0);
        d.says(2, "A PLAN: its number. NONE: kind; BAD: v; FULL: 6.");
        int[] told = {0, 13, 21, 40, 57, 69};
        for (int plan = 0; plan < told.length; plan++) {
            d.due("its number", x.plan(told[plan] / 10, told[plan] % 10), plan);
        }
        d.due("no kind", x.plan(7, 0), NONE);
        d.due("no v", x.plan(6, 10), BAD);
        d.due("6", x.plan(6, 9), FULL);
        d.says(3, "Of a PLAN what 0 KIND, 1 v, 2 how many MEN of it there are. NONE.");
        d.due("kind", x.of(4, 0), 5);
        d.due("v", x.of(4, 1), 7);
        d.due("men", x.of(4, 2), 0);
        d.due("no plan", x.of(6, 0), NONE);
        d.due("no what", x.of(4, 3), NONE);
        d.says(4, "The ROW of a TOLD one becomes n (0, 1) for way part (0 .. 7): what it was. NONE: plan, part; "
            + "BAD; STATE: another KIND.");
        d.due("at first", x.row(5, 7, 0), 1);
        d.due("then", x.row(5, 7, 0), 0);
        d.due("no plan", x.row(6, 7, 0), NONE);
        d.due("no way", x.row(5, 8, 0), NONE);
        d.due("no n", x.row(5, 7, 2), BAD);
        d.due("another kind", x.row(4, 7, 1), STATE);
        d.says(5, "A sign (0 .. 127) comes behind THE TEXT's: how many it has. BAD; FULL.");
        for (int i = 1; i <= 100; i++) {
            d.due("a sign", x.feed("wide 6".charAt(i % 6)), i);
        }
        d.due("no sign", x.feed(128), BAD);
        d.due("a hundred", x.feed('w'), FULL);
        d.says(6, "THE TEXT, which is empty then, is a YARD, and holds: its number. FULL: there are 6 (THE TEXT "
            + "stays); -10 less the FAULT (the one that held holds, MEN stay).");
        x.set(0, 3);
        d.due("no yard", x.yard(), -10);
        d.due("empty", x.count(5), 0);
        d.due("men stay", x.told(5), 8);
        d.due("the one that held", x.told(0), 4);
        for (int yard = 0; yard < 6; yard++) {
            d.due("a yard", Due.yard(x, "wide 3;bar n=4"), yard);
        }
        d.due("empty", x.count(5), 0);
        d.due("no men", x.told(5), 0);
        d.due("there are 6", Due.yard(x, "flat"), FULL);
        d.due("the text stays", x.count(5), 4);
        d.due("holds", x.told(0), 3);
    }

    /** On a board of 3 with 4 barred from here on: a rook on 0, a man on 8. */
    private static void men() {
        d.says(8, "A MAN of a PLAN is SET on a square: whether it FITS there (1, 0). NONE; STATE: it may not be.");
        d.due("fits", x.set(1, 0), 1);
        d.due("seen by the rook", x.set(2, 2), 0);
        x.take(2);
        d.due("fits", x.set(0, 8), 1);
        d.due("no plan", x.set(6, 1), NONE);
        d.due("no square", x.set(0, 9), NONE);
        d.due("barred", x.set(0, 4), STATE);
        d.due("a man is there", x.set(0, 8), STATE);
        d.says(7, "What 0 WIDE, 1 whether ROUND, 2 how many MEN, 3 HOLES, 4 BARRED squares, 5 squares with MEN "
            + "(bits each), 6 whether AT PEACE. NONE.");
        int[] told = {3, 0, 2, 0, 1 << 4, 1 | 1 << 8, 1, NONE};
        for (int what = 0; what < told.length; what++) {
            d.due("what " + what, x.told(what), told[what]);
        }
        d.says(9, "The MAN on a square is taken away: its PLAN. NONE: square; STATE: there is none.");
        d.due("its plan", x.take(0), 1);
        d.due("away", x.told(5), 1 << 8);
        d.due("none", x.take(0), STATE);
        d.due("no square", x.take(9), NONE);
        x.set(1, 0);
        d.says(10, "Of a square what 0 the PLAN of the MAN there (-5: none), 1 SEEN, 2 what that MAN SEES (bits; "
            + "-5). NONE.");
        d.due("the plan", x.at(0, 0), 1);
        d.due("seen", x.at(0, 1), 0);
        d.due("sees", x.at(0, 2), Due.picture(".oo", "o..", "o.."));
        d.due("none", x.at(6, 0), -5);
        d.due("seen", x.at(6, 1), 1);
        d.due("none", x.at(6, 2), -5);
        d.due("no square", x.at(9, 0), NONE);
        d.due("no what", x.at(0, 3), NONE);
        d.says(11, "SEES of a PLAN from a square, as bits. NONE.");
        d.due("a bishop that leaps", x.sees(4, 0), Due.picture("...", "..o", ".o."));
        d.due("a bishop on a barred square", x.sees(2, 4), Due.picture("o.o", "...", "o.o"));
        d.due("no plan", x.sees(6, 0), NONE);
        d.due("no square", x.sees(4, 9), NONE);
        d.says(12, "All MEN are taken away: how many there were.");
        d.due("two", x.clear(), 2);
        d.due("none now", x.told(5), 0);
        d.due("none", x.clear(), 0);
        Due.setAll(x, 1, 0);
        Due.setAll(x, 0, 8);
    }

    private static void ways() {
        d.says(13, "WORST; -5.");
        d.due("at peace", x.worst(), -5);
        x.set(0, 6);
        d.due("the rook", x.worst(), 0);
        d.says(14, "WAYS: row -1 how many, else x of that row in the first (-5). NONE: plan, row (0 .. WIDE less 1).");
        d.due("rooks, not in the middle", x.ways(1, -1), 4);
        int[] first = {0, 2, 1};
        for (int row = 0; row < first.length; row++) {
            d.due("row " + row, x.ways(1, row), first[row]);
        }
        d.due("queens", x.ways(3, -1), 0);
        d.due("no first one", x.ways(3, 0), -5);
        d.due("no plan", x.ways(6, -1), NONE);
        d.due("no row", x.ways(1, 3), NONE);
        d.due("no row", x.ways(1, -2), NONE);
        d.says(15, "AFTER: x of a row; -5; -9. NONE: plan, row.");
        d.due("nobody in row 1", x.after(1, 0), -9);
        x.set(0, 5);
        x.take(8);
        int[] last = {0, 2, 1};
        for (int row = 0; row < last.length; row++) {
            d.due("behind 0 2 0, row " + row, x.after(1, row), last[row]);
        }
        x.take(6);
        x.set(0, 7);
        int[] next = {1, 0, 2};
        for (int row = 0; row < next.length; row++) {
            d.due("behind 0 2 1, row " + row, x.after(1, row), next[row]);
        }
        d.due("no queens", x.after(3, 0), -5);
        d.due("no plan", x.after(6, 0), NONE);
        d.due("no row", x.after(1, 3), NONE);
        d.due("no row", x.after(1, -1), NONE);
    }

    private static void mostToGame() {
        d.says(16, "MOST. NONE.");
        d.due("men", x.most(0), 8);
        d.due("rooks", x.most(1), 3);
        d.due("no plan", x.most(6), NONE);
        d.says(17, "HOLD: what 0 how many, 1 the set (bits); -5. NONE.");
        d.due("queens", x.hold(3, 0), 2);
        d.due("on 0 and 1", x.hold(3, 1), 3);
        d.due("men", x.hold(0, 1), -5);
        d.due("no plan", x.hold(6, 0), NONE);
        d.due("no what", x.hold(3, 2), NONE);
        d.says(18, "MORE, as bits. NONE.");
        // a rook on 0, men on 5 and 7
        d.due("men", x.more(0), 1 << 8);
        d.due("rooks", x.more(1), 0);
        d.due("no plan", x.more(6), NONE);
        d.says(19, "RIGHT: what 0 how few, 1 the set (bits); -5. NONE.");
        d.due("at peace", x.right(0), 0);
        x.set(0, 1);
        d.due("one", x.right(0), 1);
        d.due("the rook", x.right(1), 1);
        d.due("no what", x.right(2), NONE);
        d.says(20, "GAME: 1, 0; -9. NONE.");
        d.due("one is left", x.game(0), 1);
        x.set(0, 8);
        d.due("none is left", x.game(0), 0);
        d.due("no plan", x.game(6), NONE);
        d.due("too many", Due.with("", 0).game(0), -9);
    }

    /** A rook on 0, men on 1, 5, 7 and 8 from here on. */
    private static void turnedToRubbed() {
        d.says(21, "TURNED: 1, 0. NONE: how.");
        d.due("as it is", x.turned(0), 1);
        d.due("a quarter", x.turned(1), 0);
        d.due("no how", x.turned(8), NONE);
        d.says(22, "ALIKE.");
        d.due("by none but that", x.alike(), 1);
        d.says(23, "A square comes to THE AIM: how many there are (-1: none then, 0). NONE; BAD: it is there "
            + "already; FULL: 5.");
        for (int i = 1; i <= 5; i++) {
            d.due("a square", x.aim(i - 1), i);
        }
        d.due("no square", x.aim(9), NONE);
        d.due("already", x.aim(4), BAD);
        d.due("5", x.aim(5), FULL);
        d.due("none then", x.aim(-1), 0);
        d.due("none now", x.count(2), 0);
        d.says(24, "REACH; -9; -5.");
        d.due("not as many", x.reach(), -5);
        for (int square : new int[] {0, 1, 2, 6, 7}) {
            x.aim(square);
        }
        d.due("5 to 2, 8 to 7, 7 to 6", x.reach(), 3);
        x.set(0, 3);
        d.due("six men", x.reach(), -9);
        x.take(3);
        d.says(25, "What is SEEN is told: how many there are (square -1: none then, 0, whatever the other is). "
            + "NONE; BAD: n (0 .. 25); FULL: 8.");
        for (int i = 1; i <= 8; i++) {
            d.due("a square", x.see(2, 1), i);
        }
        d.due("no square", x.see(9, 1), NONE);
        d.due("no n", x.see(2, 26), BAD);
        d.due("8", x.see(2, 25), FULL);
        d.due("none then", x.see(-1, 26), 0);
        d.due("none now", x.count(3), 0);
        d.says(26, "RUBBED, as bits. NONE.");
        x.see(2, 2);
        x.see(1, 1);
        d.due("a bishop who sees 2, not 1", x.rubbed(2), 1 << 6);
        x.see(-1, 0);
        x.see(1, 2);
        d.due("a bishop who sees 1", x.rubbed(2), 1 << 3);
        d.due("no plan", x.rubbed(6), NONE);
    }

    private static void oddsAndBooks() {
        d.says(27, "ODDS; part 0 above, 1 below the line. NO.");
        x.take(8);
        d.due("a man fits on 8 of 2, 3, 6 and 8", x.odds(0, 0), 1);
        d.due("of four", x.odds(0, 1), 4);
        d.due("no plan", x.odds(6, 0), NO);
        d.due("no part", x.odds(0, 2), NO);
        d.says(28, "MEAN; part likewise. NO.");
        d.due("4 by four men", x.mean(0), 1);
        d.due("one", x.mean(1), 1);
        d.due("no part", x.mean(2), NO);
        d.due("no men", Due.with("", 0).mean(0), NO);
        d.says(29, "A square comes to the BOOK: how many there are (-1: it is empty then, 0). NONE; FULL: 12.");
        for (int i = 1; i <= 12; i++) {
            d.due("a square", x.book(8), i);
        }
        d.due("no square", x.book(9), NONE);
        d.due("12", x.book(8), FULL);
        d.due("empty then", x.book(-1), 0);
        d.due("empty now", x.count(4), 0);
        d.says(30, "LOOKED at; -5.");
        d.due("an empty book", x.looked(), -5);
        x.book(0);
        d.due("a man is there", x.looked(), -5);
        x.book(8);
        d.due("none is there", x.looked(), 1);
    }

    /** A rook on 0, men on 1, 5 and 7 from here on. */
    private static void judgedToUndone() {
        d.says(31, "JUDGED from place i of a TAPE on. NONE: tape; CAST: it is no row of booleans.");
        x.tape(0, 4, 10);
        for (int i : new int[] {1, 2, 6, 8}) {
            x.item(0, i, 1);
        }
        d.due("from 1 on all is so", x.judge(0, 1), -5);
        d.due("from 0 on it is not", x.judge(0, 0), 0);
        d.due("the row ends", x.judge(0, 10), 100);
        d.due("no tape", x.judge(6, 0), NONE);
        x.tape(1, 3, 10);
        d.due("longs", x.judge(1, 0), CAST);
        d.says(33, "All is as THE IMAGE: how many PLANS. STATE: there is none.");
        d.due("there is none", x.undo(), STATE);
        d.says(32, "THE IMAGE is taken: how many PLANS there are.");
        d.due("six", x.image(), 6);
        d.says(33, "All is as THE IMAGE: how many PLANS. STATE: there is none.");
        x.clear();
        x.book(-1);
        d.due("six", x.undo(), 6);
        d.due("men", x.told(5), Due.bits(0, 1, 5, 7));
        d.due("the book", x.count(4), 2);
    }

    private static void actsAndCounts() {
        d.says(34, "An ACT (0 looks, 1 sees, 2 tells) of a PLAN with x. 0, and no TRACE then: no such PLAN, act.");
        d.due("a rook looks", x.act(1, 0, 4), 5);
        d.due("a rook sees", x.act(1, 1, 4), 4 + 1 - 3 ^ 6);
        d.due("a rook tells", x.act(1, 2, 4), (4 + 1 - 3 ^ 6) * 2);
        d.says(35, "THE TRACE's i-th body. NONE.");
        int[] ran = {12, 20, 11, 10};
        for (int i = 0; i < ran.length; i++) {
            d.due("body " + i, x.trace(i), ran[i]);
        }
        d.due("no fifth", x.trace(4), NONE);
        d.due("none ahead", x.trace(-1), NONE);
        d.says(37, "How many: 0 PLANS, 1 YARDS, 2 of THE AIM, 3 of SEEN, 4 of the BOOK, 5 bytes of THE TEXT, 6 "
            + "bodies that ran in the latest act() (all, kept or not). BAD.");
        int[] many = {6, 6, 5, 1, 2, 4, 4};
        for (int what = 0; what < many.length; what++) {
            d.due("what " + what, x.count(what), many[what]);
        }
        d.due("no what", x.count(7), BAD);
        d.says(34, "An ACT (0 looks, 1 sees, 2 tells) of a PLAN with x. 0, and no TRACE then: no such PLAN, act.");
        d.due("no plan", x.act(6, 2, 4), 0);
        d.due("no trace", x.count(6), 0);
        x.act(1, 2, 4);
        d.due("no act", x.act(1, 3, 4), 0);
        d.due("no trace", x.trace(0), NONE);
        d.says(36, "A PLAN taken for one of KIND k (0 .. 6), or one under that: its KIND. BAD: k; NOTHING: no such "
            + "PLAN; CAST.");
        d.due("a queen for a rook", x.taken(3, 1), 4);
        d.due("a rook for a rook", x.taken(1, 1), 1);
        d.due("a rook for a queen", x.taken(1, 4), CAST);
        d.due("no kind", x.taken(6, 7), BAD);
        d.due("no plan", x.taken(6, 0), NOTHING);
    }

    private static void tapes() {
        d.says(38, "A TAPE becomes a row of n (0 .. 60) of a sort, all 0, or holds nothing (sort -1: n does not "
            + "matter): 1. NONE: tape; BAD: sort, n above 60; SIZE.");
        d.due("a row", x.tape(2, 1, 60), 1);
        d.due("all 0", x.read(2, 59), 0);
        d.due("nothing", x.tape(3, -1, 61), 1);
        d.due("no tape", x.tape(6, 1, 60), NONE);
        d.due("no sort", x.tape(2, 5, 60), BAD);
        d.due("above 60", x.tape(2, 1, 61), BAD);
        d.due("below 0", x.tape(2, 1, -1), SIZE);
        d.says(39, "Item i of a TAPE becomes v (its lowest bits, as many as an item has; booleans: whether v is not "
            + "0): 1. NONE; NOTHING; PLACE.");
        d.due("an item", x.item(2, 0, 0x18000), 1);
        d.due("a boolean", x.item(0, 9, 0x18000), 1);
        d.due("no tape", x.item(6, 0, 1), NONE);
        d.due("nothing", x.item(3, 0, 1), NOTHING);
        d.due("no place", x.item(2, 60, 1), PLACE);
        d.says(40, "Item i of a TAPE. NO: no such TAPE, nothing there, no such place.");
        d.due("its lowest bits", x.read(2, 0), Short.MIN_VALUE);
        d.due("whether it is not 0", x.read(0, 9), 1);
        d.due("no tape", x.read(6, 0), NO);
        d.due("nothing", x.read(3, 0), NO);
        d.due("no place", x.read(2, 60), NO);
        d.says(41, "n items of a TAPE from i on come to another one (or the same) from j on, as they all were "
            + "before: n. NONE: tapes; NOTHING; CAST: of unlike sorts; PLACE: n, i or j is below 0, or beyond "
            + "either's end.");
        x.item(2, 1, 7);
        d.due("the same", x.shift(2, 0, 2, 1, 2), 2);
        d.due("as they were", x.read(2, 1), Short.MIN_VALUE);
        d.due("both", x.read(2, 2), 7);
        x.tape(4, 1, 3);
        d.due("another one", x.shift(2, 1, 4, 0, 3), 3);
        d.due("its second", x.read(4, 1), 7);
        d.due("none", x.shift(2, 60, 4, 3, 0), 0);
        d.due("no tape", x.shift(2, 0, 6, 0, 1), NONE);
        d.due("nothing", x.shift(2, 0, 3, 0, 1), NOTHING);
        d.due("unlike sorts", x.shift(2, 0, 1, 0, 1), CAST);
        d.due("beyond the end", x.shift(2, 0, 4, 1, 3), PLACE);
        d.due("below 0", x.shift(2, -1, 4, 1, 1), PLACE);
    }
}
