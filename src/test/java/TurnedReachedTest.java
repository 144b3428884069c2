/** Promises 21 to 26: turned, reached, rubbed. */
public final class TurnedReachedTest {
    private static final Due d = new Due();

    public static void main(String[] args) {
        turned();
        alike();
        aim();
        reach();
        see();
        rubbed();
        d.finish();
    }

    private static NoneSees men(String text, int... squares) {
        NoneSees x = Due.on(text);
        x.plan(Due.MAN, 0);
        x.plan(Due.ROOK, 0);
        Due.setAll(x, 0, squares);
        return x;
    }

    private static void isTurned(NoneSees x, String same) {
        int many = 0;
        for (int how = 0; how < 8; how++) {
            d.due("by " + how, x.turned(how), same.charAt(how) - '0');
            many += same.charAt(how) - '0';
        }
        d.due("alike", x.alike(), many);
    }

    private static void turned() {
        d.part("21 turned");
        NoneSees x = men("wide 3");
        isTurned(x, "11111111");
        d.due("-1", x.turned(-1), -1);
        d.due("8", x.turned(8), -1);
        isTurned(men("wide 3", 0), "10000001");
        isTurned(men("wide 3", 1), "10001000");
        isTurned(men("wide 3", 2), "10000100");
        isTurned(men("wide 3", 3), "10000010");
        isTurned(men("wide 3", 4), "11111111");
        isTurned(men("wide 3", 0, 8), "10100101");
        isTurned(men("wide 3", 0, 7), "10000000");
        isTurned(men("wide 4", 1, 7, 8, 14), "11110000");
        NoneSees y = men("wide 3", 0);
        Due.setAll(y, 1, 2);
        d.due("of whatever plans", y.turned(4), 1);
        d.due("nothing changed", y.at(2, 0), 1);
    }

    private static void alike() {
        d.part("22 alike");
        d.due("empty", new NoneSees().alike(), 8);
        d.due("corner", men("wide 5", 0).alike(), 2);
        d.due("two corners", men("wide 5", 0, 24).alike(), 4);
        d.due("queens", men("wide 4", 1, 7, 8, 14).alike(), 4);
        d.due("by none but itself", men("wide 5", 0, 1).alike(), 1);
        d.due("four corners", men("wide 5", 0, 4, 20, 24).alike(), 8);
    }

    private static void aim() {
        d.part("23 aim");
        NoneSees x = Due.on("wide 3;hole n=0");
        d.due("-2", x.aim(-2), -1);
        d.due("9", x.aim(9), -1);
        d.due("a hole too", x.aim(0), 1);
        d.due("there already", x.aim(0), -2);
        for (int square = 1; square < 5; square++) {
            d.due("square " + square, x.aim(square), square + 1);
        }
        d.due("full", x.aim(5), -4);
        d.due("there ahead of full", x.aim(4), -2);
        d.due("none ahead of full", x.aim(9), -1);
        d.due("five", x.count(2), 5);
        d.due("away", x.aim(-1), 0);
        d.due("none now", x.count(2), 0);
        d.due("anew", x.aim(4), 1);
    }

    private static void aims(NoneSees x, int... squares) {
        x.aim(-1);
        for (int square : squares) {
            x.aim(square);
        }
    }

    private static void reach() {
        d.part("24 reach");
        NoneSees x = men("wide 4", 0, 3);
        d.due("no aim", x.reach(), -5);
        aims(x, 3, 0);
        d.due("there already", x.reach(), 0);
        aims(x, 1, 0);
        d.due("who goes is free", x.reach(), 2);
        aims(x, 15, 12);
        d.due("each down", x.reach(), 6);
        aims(x, 15, 12, 1);
        d.due("not as many", x.reach(), -5);
        x.clear();
        aims(x);
        d.due("nobody", x.reach(), 0);
        x = men("wide 4;round", 0);
        aims(x, 15);
        d.due("not round", x.reach(), 6);
        aims(x, 3);
        d.due("along the row", x.reach(), 3);
        x.clear();
        Due.setAll(x, 0, 3);
        aims(x, 4);
        d.due("from a row's end to the next one's", x.reach(), 4);
        aims(x, 12);
        d.due("across", x.reach(), 6);
        x = men("wide 3;bar n=1|n=4", 0);
        aims(x, 2);
        d.due("past barred squares", x.reach(), 6);
        aims(x, 4);
        d.due("onto a barred one", x.reach(), -5);
        x = men("wide 3;hole x=1", 0);
        aims(x, 2);
        d.due("not over a hole", x.reach(), -5);
        x = men("wide 5", 0, 1, 2, 3, 4);
        aims(x, 20, 21, 22, 23, 24);
        d.due("five men", x.reach(), 20);
        aims(x, 1, 2, 3, 4, 9);
        d.due("through one another", x.reach(), 5);
        Due.setAll(x, 0, 12);
        d.due("six men", x.reach(), -9);
        x.aim(-1);
        d.due("six men, no aim", x.reach(), -9);
        x = men("wide 5;bar d=1&x<4&y<4", 0, 24);
        aims(x, 24, 12);
        d.due("shut in", x.reach(), -5);
    }

    private static void see() {
        d.part("25 see");
        NoneSees x = new NoneSees();
        d.due("square -2", x.see(-2, 0), -1);
        d.due("square 16", x.see(16, 99), -1);
        d.due("n -1", x.see(0, -1), -2);
        d.due("n 26", x.see(0, 26), -2);
        for (int i = 1; i <= 8; i++) {
            d.due("told " + i, x.see(3, i == 1 ? 25 : 0), i);
        }
        d.due("full", x.see(3, 0), -4);
        d.due("bad ahead of full", x.see(3, 26), -2);
        d.due("none ahead of full", x.see(16, 0), -1);
        d.due("eight", x.count(3), 8);
        d.due("away", x.see(-1, 99), 0);
        d.due("none now", x.count(3), 0);
    }

    private static void rubbed() {
        d.part("26 rubbed");
        NoneSees x = men("wide 3;bar n=8", 4);
        d.due("plan", x.rubbed(2), -1);
        d.due("plan -1", x.rubbed(-1), -1);
        d.due("nothing told", x.rubbed(0), Due.bits(0, 1, 2, 3, 5, 6, 7));
        x.see(0, 1);
        d.due("who sees 0", x.rubbed(1), Due.bits(1, 2, 3, 6));
        x.see(5, 1);
        d.due("and 5", x.rubbed(1), Due.bits(2, 3));
        x.see(6, 0);
        d.due("and not 6", x.rubbed(1), Due.bits(2));
        d.due("no man does", x.rubbed(0), 0);
        x.see(-1, 0);
        Due.setAll(x, 1, 0);
        x.see(2, 2);
        d.due("with who sees it already", x.rubbed(1), Due.bits(1, 5));
        x.see(2, 1);
        d.due("both can not be", x.rubbed(1), 0);
        x.see(-1, 0);
        x.see(2, 1);
        d.due("it needs not fit, nor see itself", x.rubbed(1), Due.bits(2, 3, 6, 7));
    }
}
