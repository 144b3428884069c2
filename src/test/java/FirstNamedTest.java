/** Where a call would be refused for several reasons at once, the one that its words name first is answered. */
public final class FirstNamedTest {
    private static final Due d = new Due();
    private static final String FIRST = "the first that a call's words name";

    /** Numbers that none of a call's limits takes in, and some that one does. */
    private static final int[] NUMBERS = {Integer.MIN_VALUE, -2, -1, 0, 1, 2, 3, 5, 6, 7, 8, 9, 10, 24, 25, 26, 60, 61,
        127, 128, Integer.MAX_VALUE};

    public static void main(String[] args) {
        plan();
        row();
        set();
        aimBookFeed();
        see();
        tape();
        item();
        shift();
        taken();
        d.finish();
    }

    /** The first answer that is not 0; 0: none is. */
    private static int first(int... answers) {
        for (int answer : answers) {
            if (answer != 0) {
                return answer;
            }
        }
        return 0;
    }

    private static int when(boolean so, int answer) {
        return so ? answer : 0;
    }

    private static boolean without(int n, int least, int most) {
        return n < least || n > most;
    }

    private static void isFirst(String call, int got, int refusal) {
        if (refusal != 0) {
            d.due(call, got, refusal);
        } else {
            d.due(call + " is taken", got >= 0 ? 1 : 0, 1);
        }
    }

    private static void plan() {
        d.says(2, FIRST);
        for (int plans = 0; plans <= 6; plans += 6) {
            for (int kind : NUMBERS) {
                for (int v : NUMBERS) {
                    NoneSees x = new NoneSees();
                    for (int i = 0; i < plans; i++) {
                        x.plan(0, 0);
                    }
                    int due = first(when(without(kind, 0, 6), -1), when(without(v, 0, 9), -2), when(plans == 6, -4));
                    isFirst("plan(" + kind + ", " + v + ")", x.plan(kind, v), due);
                }
            }
        }
    }

    private static void row() {
        d.says(4, FIRST);
        NoneSees x = Due.with("", 60, 30);
        for (int plan : NUMBERS) {
            for (int part : NUMBERS) {
                for (int n : NUMBERS) {
                    boolean none = without(plan, 0, 1) || without(part, 0, 7);
                    int due = first(when(none, -1), when(without(n, 0, 1), -2), when(plan == 1, -3));
                    isFirst("row(" + plan + ", " + part + ", " + n + ")", x.row(plan, part, n), due);
                }
            }
        }
    }

    private static void set() {
        d.says(8, FIRST);
        for (int plan : NUMBERS) {
            for (int square : NUMBERS) {
                NoneSees x = Due.with("wide 3;hole n=0;bar n=1", 0, 0);
                Due.setAll(x, 0, 5);
                boolean none = without(plan, 0, 1) || without(square, 0, 8);
                int due = first(when(none, -1), when(square == 0 || square == 1 || square == 5, -3));
                isFirst("set(" + plan + ", " + square + ")", x.set(plan, square), due);
            }
        }
    }

    private static void aimBookFeed() {
        for (int square : NUMBERS) {
            NoneSees x = Due.with("wide 3", 0);
            NoneSees full = Due.with("wide 3", 0);
            for (int k = 0; k < 12; k++) {
                full.aim(k);
                full.book(k % 9);
            }
            Due.feed(full, "x".repeat(100));
            x.aim(3);
            boolean none = without(square, -1, 8);
            d.says(23, FIRST);
            isFirst("aim(" + square + ")", x.aim(square), first(when(none, -1), when(square == 3, -2)));
            int due = first(when(none, -1), when(square >= 0 && square < 5, -2), when(square >= 5, -4));
            isFirst("full, aim(" + square + ")", full.aim(square), due);
            d.says(29, FIRST);
            isFirst("book(" + square + ")", x.book(square), when(none, -1));
            isFirst("full, book(" + square + ")", full.book(square), first(when(none, -1), when(square >= 0, -4)));
            d.says(5, FIRST);
            isFirst("feed(" + square + ")", x.feed(square), when(without(square, 0, 127), -2));
            isFirst("full, feed(" + square + ")", full.feed(square), first(when(without(square, 0, 127), -2), -4));
        }
    }

    private static void see() {
        d.says(25, FIRST);
        for (int square : NUMBERS) {
            for (int n : NUMBERS) {
                for (int many = 0; many <= 8; many += 8) {
                    NoneSees x = Due.with("wide 3", 0);
                    for (int k = 0; k < many; k++) {
                        x.see(0, 0);
                    }
                    int due = first(when(without(square, 0, 8), -1), when(without(n, 0, 25), -2), when(many == 8, -4));
                    isFirst("see(" + square + ", " + n + ")", x.see(square, n), square == -1 ? 0 : due);
                }
            }
        }
    }

    private static void tape() {
        d.says(38, FIRST);
        NoneSees x = new NoneSees();
        for (int tape : NUMBERS) {
            for (int sort : NUMBERS) {
                for (int n : NUMBERS) {
                    boolean bad = without(sort, -1, 4) || sort != -1 && n > 60;
                    int due = first(when(without(tape, 0, 5), -1), when(bad, -2), when(sort != -1 && n < 0, -14));
                    isFirst("tape(" + tape + ", " + sort + ", " + n + ")", x.tape(tape, sort, n), due);
                }
            }
        }
    }

    private static void item() {
        d.says(39, FIRST);
        NoneSees x = new NoneSees();
        x.tape(0, 1, 3);
        x.tape(5, 4, 60);
        for (int tape : NUMBERS) {
            for (int i : NUMBERS) {
                int size = tape == 0 ? 3 : tape == 5 ? 60 : -1;
                boolean place = i < 0 || i >= size;
                int due = first(when(without(tape, 0, 5), -1), when(size < 0, -11), when(place, -13));
                isFirst("item(" + tape + ", " + i + ", 1)", x.item(tape, i, 1), due);
                d.due("read(" + tape + ", " + i + ")", x.read(tape, i), due == 0 ? 1 : NoneSees.NO);
            }
        }
    }

    private static void shift() {
        d.says(41, FIRST);
        NoneSees x = new NoneSees();
        int[] sizes = {3, -1, -1, 8, -1, 60};
        int[] sorts = {2, -1, -1, 2, -1, 3};
        for (int tape = 0; tape < 6; tape++) {
            x.tape(tape, sorts[tape], sizes[tape]);
        }
        int[] tapes = {-1, 0, 1, 3, 5, 6};
        for (int from : tapes) {
            for (int to : tapes) {
                for (int i : NUMBERS) {
                    for (int j : NUMBERS) {
                        for (int n : NUMBERS) {
                            boolean none = without(from, 0, 5) || without(to, 0, 5);
                            boolean nothing = !none && (sizes[from] < 0 || sizes[to] < 0);
                            boolean cast = !none && sorts[from] != sorts[to];
                            boolean place = !none && (beyond(i, n, sizes[from]) || beyond(j, n, sizes[to]));
                            int due = first(when(none, -1), when(nothing, -11), when(cast, -12), when(place, -13));
                            d.due("shift(" + from + ", " + i + ", " + to + ", " + j + ", " + n + ")",
                                x.shift(from, i, to, j, n), due == 0 ? n : due);
                        }
                    }
                }
            }
        }
    }

    private static boolean beyond(long i, long n, long size) {
        return i < 0 || n < 0 || i + n > size;
    }

    private static void taken() {
        d.says(36, FIRST);
        NoneSees x = Due.with("", 0, 10, 60);
        for (int plan : NUMBERS) {
            for (int k : NUMBERS) {
                boolean cast = k != 0 && !(plan == 1 && k == 1) && !(plan == 2 && (k == 3 || k == 6));
                int due = first(when(without(k, 0, 6), -2), when(without(plan, 0, 2), -11), when(cast, -12));
                isFirst("taken(" + plan + ", " + k + ")", x.taken(plan, k), due);
            }
        }
    }
}
