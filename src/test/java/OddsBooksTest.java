/** Promises 27 to 30: odds, books. */
public final class OddsBooksTest {
    private static final Due d = new Due();

    public static void main(String[] args) {
        odds();
        mean();
        book();
        looked();
        d.finish();
    }

    private static NoneSees kings(String text) {
        NoneSees x = Due.on(text);
        x.plan(Due.MAN, 0);
        x.plan(Due.KING, 0);
        x.plan(Due.ROOK, 0);
        return x;
    }

    private static void odds() {
        d.part("27 odds");
        NoneSees x = kings("wide 4");
        d.due("sure", x.odds(0, 0), 1);
        d.due("sure", x.odds(0, 1), 1);
        Due.setAll(x, 1, 0);
        d.due("12 of 15", x.odds(0, 0), 4);
        d.due("12 of 15", x.odds(0, 1), 5);
        d.due("what sees him", x.odds(2, 0), 8);
        d.due("what sees him", x.odds(2, 1), 15);
        d.due("plan", x.odds(3, 0), NoneSees.NO);
        d.due("plan -1", x.odds(-1, 0), NoneSees.NO);
        d.due("part -1", x.odds(0, -1), NoneSees.NO);
        d.due("part 2", x.odds(0, 2), NoneSees.NO);
        x = kings("wide 2;bar n=3");
        Due.setAll(x, 1, 0);
        d.due("never", x.odds(0, 0), 0);
        d.due("never", x.odds(0, 1), 1);
        Due.setAll(x, 0, 1, 2);
        d.due("nowhere", x.odds(0, 0), NoneSees.NO);
        d.due("nowhere", x.odds(0, 1), NoneSees.NO);
    }

    private static void mean() {
        d.part("28 mean");
        NoneSees x = kings("wide 4");
        d.due("nobody", x.mean(0), NoneSees.NO);
        d.due("nobody", x.mean(1), NoneSees.NO);
        Due.setAll(x, 0, 1);
        d.due("none", x.mean(0), 0);
        d.due("none", x.mean(1), 1);
        Due.setAll(x, 1, 0);
        d.due("3 by 2", x.mean(0), 3);
        d.due("3 by 2", x.mean(1), 2);
        Due.setAll(x, 1, 5);
        Due.setAll(x, 0, 3);
        d.due("11 by 4", x.mean(0), 11);
        d.due("11 by 4", x.mean(1), 4);
        Due.setAll(x, 2, 15, 14, 13, 12);
        d.due("35 by 8", x.mean(0), 35);
        x.take(3);
        d.due("35 by 7", x.mean(0), 5);
        d.due("35 by 7", x.mean(1), 1);
        d.due("part -1", x.mean(-1), NoneSees.NO);
        d.due("part 2", x.mean(2), NoneSees.NO);
    }

    private static void book() {
        d.part("29 book");
        NoneSees x = kings("wide 3;hole n=0");
        d.due("-2", x.book(-2), -1);
        d.due("9", x.book(9), -1);
        d.due("a hole too", x.book(0), 1);
        for (int i = 2; i <= 12; i++) {
            d.due("the same again", x.book(8), i);
        }
        d.due("full", x.book(1), -4);
        d.due("none ahead of full", x.book(9), -1);
        d.due("twelve", x.count(4), 12);
        d.due("empty", x.book(-1), 0);
        d.due("none now", x.count(4), 0);
    }

    private static void looked() {
        d.part("30 looked");
        NoneSees x = kings("wide 3");
        d.due("empty", x.looked(), -5);
        x.book(4);
        d.due("the first", x.looked(), 0);
        Due.setAll(x, 0, 4);
        d.due("all have one", x.looked(), -5);
        x.book(4);
        x.book(2);
        x.book(8);
        d.due("the third", x.looked(), 2);
        Due.setAll(x, 1, 2);
        d.due("the fourth", x.looked(), 3);
        x.take(4);
        d.due("the first again", x.looked(), 0);
        x.book(-1);
        d.due("empty again", x.looked(), -5);
    }
}
