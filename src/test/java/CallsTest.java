/** The limit of 512 calls: up to the last of them each is answered as the first one was. */
public final class CallsTest {
    private static final Due d = new Due();
    private static final int CALLS = 512;
    private static final String LIMIT = "An object is used for at most 512 calls after it has been made";

    private interface Call {
        long answer(NoneSees x);
    }

    public static void main(String[] args) {
        everyAskTimeAndAgain();
        everyChangeLast();
        fullAtTheLast();
        imagesToTheLast();
        yardAtTheLast();
        d.finish();
    }

    /** An object that a few calls have gone to, 40 at most. */
    private static NoneSees led() {
        NoneSees x = Due.with("wide 5;round", 60, 55, 40);
        Due.setAll(x, 0, 0);
        Due.setAll(x, 1, 8);
        x.aim(3);
        x.aim(24);
        x.see(4, 1);
        x.book(0);
        x.book(7);
        x.tape(0, 4, 25);
        x.tape(1, 3, 60);
        x.image();
        x.act(0, 2, 5);
        return x;
    }

    private static void everyAskTimeAndAgain() {
        d.says(1, LIMIT);
        Call[] asks = {x -> x.of(0, 2), x -> x.told(6), x -> x.at(1, 1), x -> x.sees(1, 24), x -> x.worst(),
            x -> x.ways(1, -1), x -> x.after(1, 0), x -> x.most(1), x -> x.hold(1, 1), x -> x.more(2), x -> x.right(0),
            x -> x.game(2), x -> x.turned(3), x -> x.alike(), x -> x.reach(), x -> x.rubbed(2), x -> x.odds(0, 1),
            x -> x.mean(0), x -> x.looked(), x -> x.judge(0, 0), x -> x.image(), x -> x.undo(), x -> x.act(0, 2, 5),
            x -> x.trace(11), x -> x.taken(1, 2), x -> x.count(6), x -> x.item(1, 59, 3), x -> x.read(1, 0),
            x -> x.shift(1, 0, 1, 1, 59), x -> x.tape(2, 0, 60), x -> x.row(0, 7, 1), x -> x.yard(), x -> x.plan(7, 0),
            x -> x.set(2, 0), x -> x.take(1), x -> x.aim(25), x -> x.see(25, 0), x -> x.book(25), x -> x.feed(128)};
        for (int i = 0; i < asks.length; i++) {
            NoneSees x = led();
            long first = asks[i].answer(x);
            for (int call = 42; call <= CALLS; call++) {
                d.due("call " + i + ", the " + call + "th", asks[i].answer(x), first);
            }
        }
    }

    /** 511 calls that ask, and then the one that changes something is answered as ever. */
    private static void everyChangeLast() {
        d.says(1, LIMIT);
        Call[] changes = {x -> x.plan(6, 9), x -> x.feed('w'), x -> x.aim(15), x -> x.see(15, 25), x -> x.book(15),
            x -> x.clear(), x -> x.image(), x -> x.tape(5, 4, 60), x -> x.yard(), x -> x.undo(), x -> x.act(0, 0, 0)};
        long[] due = {0, 1, 1, 1, 1, 0, 0, 1, -10, -3, 0};
        for (int i = 0; i < changes.length; i++) {
            NoneSees x = new NoneSees();
            for (int call = 1; call < CALLS; call++) {
                x.told(call % 7);
            }
            d.due("change " + i, changes[i].answer(x), due[i]);
        }
    }

    private static void fullAtTheLast() {
        d.says(1, LIMIT);
        NoneSees x = new NoneSees();
        for (int i = 1; i <= CALLS; i++) {
            d.due("feed", x.feed('f'), i <= 100 ? i : -4);
        }
        x = new NoneSees();
        for (int i = 0; i < CALLS; i++) {
            d.due("plan", x.plan(i % 7, i % 10), i < 6 ? i : -4);
        }
        x = new NoneSees();
        for (int i = 0; i < CALLS; i++) {
            d.due("see", x.see(i % 16, i % 26), i < 8 ? i + 1 : -4);
        }
        x = new NoneSees();
        for (int i = 0; i < CALLS; i++) {
            d.due("book", x.book(i % 16), i < 12 ? i + 1 : -4);
        }
        x = new NoneSees();
        for (int i = 0; i < CALLS; i++) {
            d.due("aim", x.aim(i % 16), i < 5 ? i + 1 : i % 16 < 5 ? -2 : -4);
        }
        x = new NoneSees();
        for (int i = 0; i < CALLS; i++) {
            d.due("aim, away", x.aim(i % 6 == 5 ? -1 : i % 6), i % 6 == 5 ? 0 : i % 6 + 1);
        }
    }

    private static void imagesToTheLast() {
        d.says(1, LIMIT);
        NoneSees x = Due.with("", 0, 10);
        for (int call = 8; call + 6 <= CALLS; call += 6) {
            int square = call % 16;
            d.due("set", x.set(0, square), 1);
            d.due("image", x.image(), 2);
            d.due("take", x.take(square), 0);
            d.due("undo", x.undo(), 2);
            d.due("as it was", x.told(5), 1 << square);
            d.due("clear", x.clear(), 1);
        }
    }

    private static void yardAtTheLast() {
        d.says(1, LIMIT);
        NoneSees x = new NoneSees();
        String text = "bar " + "x=1|".repeat(23) + "n=15";
        for (int yard = 0; yard < 5; yard++) {
            d.due("a text of a hundred", Due.yard(x, text), yard);
        }
        d.due("the 506th to the 512th call", Due.yard(x, "wide 3"), 5);
        x = new NoneSees();
        for (int fault = 0; fault < 5; fault++) {
            d.due("a hundred, and a fault", Due.yard(x, "bar " + "x=1|".repeat(24)), -110);
        }
        d.due("the 506th to the 512th call", Due.yard(x, "wide 3"), 0);
    }
}
