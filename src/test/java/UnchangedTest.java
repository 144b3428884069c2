import java.util.LinkedHashMap;
import java.util.Map;

/**
 * What is refused changes nothing, and what is asked changes nothing: of two objects led alike one is asked more,
 * and then both must answer alike, whatever they are asked.
 */
public final class UnchangedTest {
    private static final Due d = new Due();
    private static final int MIN = Integer.MIN_VALUE, MAX = Integer.MAX_VALUE;
    private static final String REFUSED = "What is answered so changes nothing";
    private static final String ASKED = "what is asked changes nothing";

    private interface Lead {
        NoneSees led();
    }

    private interface Call {
        long answer(NoneSees x);
    }

    public static void main(String[] args) {
        refusedPlans();
        refusedText();
        refusedMen();
        refusedTold();
        refusedTapes();
        refusedUndo();
        faultTakesTheTextAlone();
        actTakesTheTraceAlone();
        imageTakesNothing();
        askedOfMen();
        askedOfWays();
        askedOfTurned();
        askedOfTapes();
        askedOneBehindAnother();
        probesTell();
        d.finish();
    }

    // ---- objects led alike

    private static NoneSees fresh() {
        return new NoneSees();
    }

    /** Some of everything, and room for more. */
    private static NoneSees some() {
        NoneSees x = someWithoutAct();
        x.act(0, 2, 3);
        return x;
    }

    private static NoneSees someWithoutAct() {
        NoneSees x = someWithoutText();
        Due.feed(x, "bar n=3|");
        return x;
    }

    private static NoneSees someWithoutText() {
        NoneSees x = Due.with("wide 3;hole n=8", 63, 10);
        x.row(0, 4, 0);
        Due.setAll(x, 1, 2, 4);
        x.aim(7);
        x.see(3, 1);
        x.book(2);
        x.book(3);
        x.image();
        Due.yard(x, "wide 5;round;hole n=3;bar n=7");
        x.plan(5, 9);
        x.row(0, 4, 1);
        x.row(0, 6, 0);
        Due.setAll(x, 0, 0, 24);
        Due.setAll(x, 1, 13);
        Due.setAll(x, 2, 6);
        x.aim(20);
        x.aim(9);
        x.see(4, 2);
        x.see(8, 1);
        x.book(24);
        x.book(13);
        x.book(1);
        x.tape(0, 0, 2);
        x.item(0, 1, 77);
        x.tape(1, 4, 3);
        x.item(1, 0, 1);
        x.tape(3, 3, 1);
        x.item(3, 0, -9);
        x.tape(5, 4, 0);
        return x;
    }

    /** All is full. */
    private static NoneSees full() {
        NoneSees x = Due.with("wide 2", 60, 11, 22, 33, 44, 59);
        x.row(0, 1, 0);
        for (int i = 1; i < 6; i++) {
            Due.yard(x, i < 5 ? "flat" : "wide 5;bar n=7");
        }
        x.image();
        for (int square = 0; square < 25; square++) {
            x.set(square % 6, square);
        }
        for (int k = 0; k < 12; k++) {
            x.book(24 - k);
        }
        for (int k = 0; k < 8; k++) {
            x.see(k, x.at(k, 1));
        }
        for (int k = 0; k < 5; k++) {
            x.aim(2 * k);
        }
        Due.feed(x, "flat;".repeat(20));
        x.tape(4, 1, 60);
        x.act(0, 2, 1);
        return x;
    }

    /** A queens' way, with an aim for each of them. */
    private static NoneSees peaceful() {
        NoneSees x = Due.with("", 40, 0, 60);
        Due.setAll(x, 0, 1, 7, 8, 14);
        x.aim(0);
        x.aim(5);
        x.aim(10);
        x.aim(15);
        x.see(0, 2);
        x.book(1);
        x.book(0);
        x.image();
        return x;
    }

    // ---- what tells two objects apart

    private static Map<String, Long> probes(NoneSees x) {
        Map<String, Long> told = new LinkedHashMap<>();
        tellCounts(x, told);
        tellPlans(x, told);
        tellTapes(x, told);
        tellAim(x, told);
        tellBookAndSeen(x, told);
        Due.feed(x, "n=5");
        told.put("yard", (long) x.yard());
        told.put("barred by it", (long) x.told(4));
        told.put("undo", (long) x.undo());
        tellCounts(x, told);
        for (int part = 0; part < 8; part++) {
            told.put("way " + part, (long) x.row(0, part, 1));
        }
        return told;
    }

    private static void tellCounts(NoneSees x, Map<String, Long> told) {
        String when = told.isEmpty() ? "" : "undone ";
        for (int what = 0; what < 7; what++) {
            told.put(when + "told " + what, (long) x.told(what));
            told.put((what == 6 ? "trace, many" : when + "count " + what), (long) x.count(what));
        }
        for (int i = 0; i < 13 && when.isEmpty(); i++) {
            told.put("trace " + i, (long) x.trace(i));
        }
        told.put(when + "reach", (long) x.reach());
        told.put(when + "looked", (long) x.looked());
        told.put(when + "rubbed", (long) x.rubbed(0));
    }

    private static void tellPlans(NoneSees x, Map<String, Long> told) {
        for (int plan = 0; plan < 6; plan++) {
            told.put("kind " + plan, (long) x.of(plan, 0));
            told.put("v " + plan, (long) x.of(plan, 1));
            told.put("sees " + plan, (long) x.sees(plan, 5));
            told.put("rubbed " + plan, (long) x.rubbed(plan));
        }
        for (int square = 0; square < 25; square++) {
            told.put("man " + square, (long) x.at(square, 0));
        }
    }

    private static void tellTapes(NoneSees x, Map<String, Long> told) {
        for (int tape = 0; tape < 6; tape++) {
            for (int i = 0; i < 4; i++) {
                told.put("tape " + tape + " item " + i, x.read(tape, i));
            }
            told.put("tape " + tape + " put", (long) x.item(tape, 0, 0x1234567897654L));
            told.put("tape " + tape + " bits", x.read(tape, 0));
        }
    }

    private static void tellAim(NoneSees x, Map<String, Long> told) {
        for (int square = 0; square < 25; square++) {
            told.put("aim " + square, (long) x.aim(square));
        }
    }

    private static void tellBookAndSeen(NoneSees x, Map<String, Long> told) {
        told.put("clear", (long) x.clear());
        for (int square = 0; square < 25; square++) {
            told.put("set " + square, (long) x.set(square % 3, square));
            told.put("looked " + square, (long) x.looked());
            told.put("rubbed after " + square, (long) x.rubbed(0));
        }
    }

    /** Both answer alike, but for what begins so. */
    private static void alike(String call, NoneSees x, NoneSees other, String but) {
        Map<String, Long> due = probes(x);
        Map<String, Long> got = probes(other);
        for (String probe : due.keySet()) {
            if (but == null || !probe.startsWith(but)) {
                d.due(call + ", then " + probe, got.get(probe), due.get(probe));
            }
        }
    }

    private static void refused(Lead lead, String call, Call refused, long answer) {
        NoneSees x = lead.led();
        NoneSees other = lead.led();
        d.due(call, refused.answer(other), answer);
        d.due(call + " again", refused.answer(other), answer);
        alike(call, x, other, null);
    }

    private static void asked(String call, Call asked) {
        Lead[] leads = {UnchangedTest::fresh, UnchangedTest::some, UnchangedTest::full, UnchangedTest::peaceful};
        for (Lead lead : leads) {
            NoneSees x = lead.led();
            NoneSees other = lead.led();
            long answer = asked.answer(other);
            d.due(call + " again", asked.answer(other), answer);
            alike(call, x, other, null);
        }
    }

    // ---- refused

    private static void refusedPlans() {
        d.says(2, REFUSED);
        refused(UnchangedTest::some, "plan(-1, 0)", x -> x.plan(-1, 0), -1);
        refused(UnchangedTest::some, "plan(7, 0)", x -> x.plan(7, 0), -1);
        refused(UnchangedTest::some, "plan(6, -1)", x -> x.plan(6, -1), -2);
        refused(UnchangedTest::some, "plan(6, 10)", x -> x.plan(6, 10), -2);
        refused(UnchangedTest::full, "plan(6, 0)", x -> x.plan(6, 0), -4);
        d.says(4, REFUSED);
        refused(UnchangedTest::some, "row(-1, 0, 0)", x -> x.row(-1, 0, 0), -1);
        refused(UnchangedTest::some, "row(3, 0, 0)", x -> x.row(3, 0, 0), -1);
        refused(UnchangedTest::some, "row(0, -1, 0)", x -> x.row(0, -1, 0), -1);
        refused(UnchangedTest::some, "row(0, 8, 0)", x -> x.row(0, 8, 0), -1);
        refused(UnchangedTest::some, "row(0, 0, 2)", x -> x.row(0, 0, 2), -2);
        refused(UnchangedTest::some, "row(0, 6, -1)", x -> x.row(0, 6, -1), -2);
        refused(UnchangedTest::some, "row(1, 0, 0)", x -> x.row(1, 0, 0), -3);
        refused(UnchangedTest::some, "row(2, 7, 0)", x -> x.row(2, 7, 0), -3);
    }

    private static void refusedText() {
        d.says(5, REFUSED);
        refused(UnchangedTest::some, "feed(-1)", x -> x.feed(-1), -2);
        refused(UnchangedTest::some, "feed(128)", x -> x.feed(128), -2);
        refused(UnchangedTest::full, "feed(';')", x -> x.feed(';'), -4);
        d.says(6, REFUSED);
        refused(UnchangedTest::full, "yard()", x -> x.yard(), -4);
    }

    private static void refusedMen() {
        d.says(8, REFUSED);
        refused(UnchangedTest::some, "set(3, 5)", x -> x.set(3, 5), -1);
        refused(UnchangedTest::some, "set(-1, 5)", x -> x.set(-1, 5), -1);
        refused(UnchangedTest::some, "set(0, 25)", x -> x.set(0, 25), -1);
        refused(UnchangedTest::some, "set(0, -1)", x -> x.set(0, -1), -1);
        refused(UnchangedTest::some, "onto a man", x -> x.set(1, 0), -3);
        refused(UnchangedTest::some, "onto a hole", x -> x.set(1, 3), -3);
        refused(UnchangedTest::some, "onto a barred one", x -> x.set(1, 7), -3);
        refused(UnchangedTest::full, "onto a man", x -> x.set(1, 24), -3);
        d.says(9, REFUSED);
        refused(UnchangedTest::some, "take(-1)", x -> x.take(-1), -1);
        refused(UnchangedTest::some, "take(25)", x -> x.take(25), -1);
        refused(UnchangedTest::some, "take(1)", x -> x.take(1), -3);
        refused(UnchangedTest::fresh, "take(0)", x -> x.take(0), -3);
    }

    private static void refusedTold() {
        d.says(23, REFUSED);
        refused(UnchangedTest::some, "aim(-2)", x -> x.aim(-2), -1);
        refused(UnchangedTest::some, "aim(25)", x -> x.aim(25), -1);
        refused(UnchangedTest::some, "aim(20)", x -> x.aim(20), -2);
        refused(UnchangedTest::full, "aim(1)", x -> x.aim(1), -4);
        refused(UnchangedTest::full, "aim(8)", x -> x.aim(8), -2);
        d.says(25, REFUSED);
        refused(UnchangedTest::some, "see(-2, 0)", x -> x.see(-2, 0), -1);
        refused(UnchangedTest::some, "see(25, 0)", x -> x.see(25, 0), -1);
        refused(UnchangedTest::some, "see(0, -1)", x -> x.see(0, -1), -2);
        refused(UnchangedTest::some, "see(0, 26)", x -> x.see(0, 26), -2);
        refused(UnchangedTest::full, "see(0, 25)", x -> x.see(0, 25), -4);
        d.says(29, REFUSED);
        refused(UnchangedTest::some, "book(-2)", x -> x.book(-2), -1);
        refused(UnchangedTest::some, "book(25)", x -> x.book(25), -1);
        refused(UnchangedTest::full, "book(7)", x -> x.book(7), -4);
    }

    private static void refusedTapes() {
        d.says(38, REFUSED);
        refused(UnchangedTest::some, "tape(-1, 0, 1)", x -> x.tape(-1, 0, 1), -1);
        refused(UnchangedTest::some, "tape(6, -1, 0)", x -> x.tape(6, -1, 0), -1);
        refused(UnchangedTest::some, "tape(0, -2, 1)", x -> x.tape(0, -2, 1), -2);
        refused(UnchangedTest::some, "tape(0, 5, 1)", x -> x.tape(0, 5, 1), -2);
        refused(UnchangedTest::some, "tape(0, 1, 61)", x -> x.tape(0, 1, 61), -2);
        refused(UnchangedTest::some, "tape(0, 1, -1)", x -> x.tape(0, 1, -1), -14);
        refused(UnchangedTest::some, "tape(2, 1, -1)", x -> x.tape(2, 1, -1), -14);
        d.says(39, REFUSED);
        refused(UnchangedTest::some, "item(6, 0, 1)", x -> x.item(6, 0, 1), -1);
        refused(UnchangedTest::some, "item(2, 0, 1)", x -> x.item(2, 0, 1), -11);
        refused(UnchangedTest::some, "item(0, 2, 1)", x -> x.item(0, 2, 1), -13);
        refused(UnchangedTest::some, "item(0, -1, 1)", x -> x.item(0, -1, 1), -13);
        refused(UnchangedTest::some, "item(5, 0, 1)", x -> x.item(5, 0, 1), -13);
        d.says(41, REFUSED);
        refused(UnchangedTest::some, "shift(6, 0, 0, 0, 1)", x -> x.shift(6, 0, 0, 0, 1), -1);
        refused(UnchangedTest::some, "shift(0, 0, 2, 0, 1)", x -> x.shift(0, 0, 2, 0, 1), -11);
        refused(UnchangedTest::some, "shift(3, 0, 0, 0, 1)", x -> x.shift(3, 0, 0, 0, 1), -12);
        refused(UnchangedTest::some, "shift(0, 1, 0, 0, 2)", x -> x.shift(0, 1, 0, 0, 2), -13);
        refused(UnchangedTest::some, "shift(0, 0, 0, 1, 2)", x -> x.shift(0, 0, 0, 1, 2), -13);
        refused(UnchangedTest::some, "shift(1, 0, 5, 0, 1)", x -> x.shift(1, 0, 5, 0, 1), -13);
        refused(UnchangedTest::some, "shift(0, 1, 0, 0, -1)", x -> x.shift(0, 1, 0, 0, -1), -13);
    }

    private static void refusedUndo() {
        d.says(33, REFUSED);
        refused(UnchangedTest::fresh, "undo()", x -> x.undo(), -3);
        Lead men = () -> {
            NoneSees x = Due.with("wide 2", 10);
            Due.setAll(x, 0, 3);
            x.aim(2);
            return x;
        };
        refused(men, "undo()", x -> x.undo(), -3);
    }

    // ---- what changes one thing alone

    private static void faultTakesTheTextAlone() {
        d.says(6, "THE TEXT, which is empty then, is a YARD, and holds: its number. FULL: there are 6 (THE TEXT "
            + "stays); -10 less the FAULT (the one that held holds, MEN stay).");
        NoneSees x = someWithoutText();
        NoneSees other = someWithoutText();
        d.due("a fault", Due.yard(other, "wide 2;bar n=3|"), -25);
        alike("a fault", x, other, null);
        x = peaceful();
        other = peaceful();
        d.due("an empty text", other.yard(), -10);
        alike("an empty text", x, other, null);
        other = fresh();
        d.due("a fault", Due.yard(other, "flat;"), -15);
        alike("a fault", fresh(), other, null);
    }

    private static void actTakesTheTraceAlone() {
        d.says(34, "0, and no TRACE then: no such PLAN, act.");
        Call[] none = {x -> x.act(3, 0, 1), x -> x.act(-1, 0, 1), x -> x.act(0, 3, 1), x -> x.act(0, -1, 1)};
        for (Call call : none) {
            NoneSees other = some();
            d.due("no such plan, act", call.answer(other), 0);
            alike("no such plan, act", someWithoutAct(), other, null);
        }
        d.says(34, "(0 looks, 1 sees, 2 tells) of a PLAN with x.");
        for (int act = 0; act < 3; act++) {
            NoneSees x = some();
            NoneSees other = some();
            d.due("it ran", x.act(2, act, 7), other.act(2, act, 7));
            other.act(1, act, 9);
            alike("an act", x, other, "trace");
        }
    }

    private static void imageTakesNothing() {
        d.says(32, "THE IMAGE is taken: how many PLANS there are.");
        NoneSees x = peaceful();
        NoneSees other = peaceful();
        d.due("the same image again", other.image(), 3);
        alike("image()", x, other, null);
        other = some();
        d.due("another image", other.image(), 3);
        NoneSees some = some();
        for (int what = 0; what < 7; what++) {
            d.due("told(" + what + ")", other.told(what), some.told(what));
            d.due("count(" + what + ")", other.count(what), some.count(what));
        }
    }

    // ---- asked

    private static void askedOfMen() {
        d.says(7, ASKED);
        for (int what = -1; what < 8; what++) {
            int k = what;
            asked("told(" + k + ")", x -> x.told(k));
        }
        d.says(3, ASKED);
        for (int what = -1; what < 4; what++) {
            int k = what;
            asked("of(0, " + k + ")", x -> x.of(0, k));
        }
        asked("of(-1, 0)", x -> x.of(-1, 0));
        asked("of(6, 2)", x -> x.of(6, 2));
        d.says(10, ASKED);
        for (int what = -1; what < 4; what++) {
            int k = what;
            asked("at(1, " + k + ")", x -> x.at(1, k));
        }
        asked("at(-1, 0)", x -> x.at(-1, 0));
        asked("at(25, 0)", x -> x.at(25, 0));
        d.says(11, ASKED);
        asked("sees(0, 5)", x -> x.sees(0, 5));
        asked("sees(2, 0)", x -> x.sees(2, 0));
        asked("sees(6, 0)", x -> x.sees(6, 0));
        asked("sees(0, 25)", x -> x.sees(0, 25));
    }

    private static void askedOfWays() {
        d.says(13, "All that follows is asked, and changes nothing.");
        asked("worst()", x -> x.worst());
        for (int plan = -1; plan < 7; plan++) {
            int p = plan;
            d.says(14, "All that follows is asked, and changes nothing.");
            asked("ways(" + p + ", -1)", x -> x.ways(p, -1));
            asked("ways(" + p + ", 1)", x -> x.ways(p, 1));
            d.says(15, "All that follows is asked, and changes nothing.");
            asked("after(" + p + ", 0)", x -> x.after(p, 0));
            asked("after(" + p + ", 5)", x -> x.after(p, 5));
            d.says(16, "All that follows is asked, and changes nothing.");
            asked("most(" + p + ")", x -> x.most(p));
            d.says(17, "All that follows is asked, and changes nothing.");
            asked("hold(" + p + ", 0)", x -> x.hold(p, 0));
            asked("hold(" + p + ", 1)", x -> x.hold(p, 1));
            d.says(18, "All that follows is asked, and changes nothing.");
            asked("more(" + p + ")", x -> x.more(p));
            d.says(20, "All that follows is asked, and changes nothing.");
            asked("game(" + p + ")", x -> x.game(p));
        }
        d.says(19, "All that follows is asked, and changes nothing.");
        for (int what = -1; what < 3; what++) {
            int k = what;
            asked("right(" + k + ")", x -> x.right(k));
        }
    }

    private static void askedOfTurned() {
        d.says(21, ASKED);
        for (int how = -1; how < 9; how++) {
            int k = how;
            asked("turned(" + k + ")", x -> x.turned(k));
        }
        d.says(22, ASKED);
        asked("alike()", x -> x.alike());
        d.says(24, ASKED);
        asked("reach()", x -> x.reach());
        d.says(26, ASKED);
        for (int plan = -1; plan < 7; plan++) {
            int p = plan;
            asked("rubbed(" + p + ")", x -> x.rubbed(p));
        }
        d.says(27, ASKED);
        asked("odds(0, 0)", x -> x.odds(0, 0));
        asked("odds(2, 1)", x -> x.odds(2, 1));
        asked("odds(0, 2)", x -> x.odds(0, 2));
        asked("odds(6, 0)", x -> x.odds(6, 0));
        d.says(28, ASKED);
        asked("mean(0)", x -> x.mean(0));
        asked("mean(1)", x -> x.mean(1));
        asked("mean(2)", x -> x.mean(2));
        d.says(30, ASKED);
        asked("looked()", x -> x.looked());
    }

    private static void askedOfTapes() {
        d.says(31, ASKED);
        int[] tapes = {-1, 0, 1, 2, 5, 6};
        for (int tape : tapes) {
            asked("judge(" + tape + ", 0)", x -> x.judge(tape, 0));
            asked("judge(" + tape + ", -1)", x -> x.judge(tape, -1));
            asked("judge(" + tape + ", 60)", x -> x.judge(tape, 60));
        }
        d.says(40, ASKED);
        for (int tape : tapes) {
            asked("read(" + tape + ", 0)", x -> x.read(tape, 0));
            asked("read(" + tape + ", 60)", x -> x.read(tape, 60));
        }
        d.says(35, ASKED);
        for (int i = -1; i < 21; i += 4) {
            int k = i;
            asked("trace(" + k + ")", x -> x.trace(k));
        }
        d.says(36, ASKED);
        asked("taken(0, 0)", x -> x.taken(0, 0));
        asked("taken(0, 5)", x -> x.taken(0, 5));
        asked("taken(0, 7)", x -> x.taken(0, 7));
        asked("taken(6, 0)", x -> x.taken(6, 0));
        d.says(37, ASKED);
        for (int what = -1; what < 8; what++) {
            int k = what;
            asked("count(" + k + ")", x -> x.count(k));
        }
    }

    /** What one call looks up must not be what the next one answers by. */
    private static void askedOneBehindAnother() {
        d.says(20, "All that follows is asked, and changes nothing.");
        Call[] calls = {x -> x.worst(), x -> x.ways(0, -1), x -> x.ways(1, 1), x -> x.after(0, 0), x -> x.after(1, 1),
            x -> x.most(0), x -> x.most(1), x -> x.hold(0, 1), x -> x.hold(1, 0), x -> x.more(0), x -> x.more(1),
            x -> x.right(1), x -> x.game(0), x -> x.game(1), x -> x.alike(), x -> x.reach(), x -> x.rubbed(0),
            x -> x.rubbed(1), x -> x.odds(0, 0), x -> x.mean(0), x -> x.told(6), x -> x.at(1, 1), x -> x.sees(1, 5)};
        Lead[] leads = {UnchangedTest::some, UnchangedTest::full, UnchangedTest::peaceful};
        for (Lead lead : leads) {
            for (int i = 0; i < calls.length; i++) {
                long alone = calls[i].answer(lead.led());
                NoneSees x = lead.led();
                for (int before = 0; before < calls.length; before++) {
                    calls[before].answer(x);
                    d.due("call " + i + " behind call " + before, calls[i].answer(x), alone);
                }
            }
        }
    }

    /** The probes themselves: each small change must be told. */
    private static void probesTell() {
        d.part("the probes");
        Call[] changes = {x -> x.plan(0, 0), x -> x.row(0, 5, 0), x -> x.feed('x'), x -> x.yard(), x -> x.set(1, 1),
            x -> x.take(24), x -> x.clear(), x -> x.aim(1), x -> x.aim(-1), x -> x.see(4, 1), x -> x.see(-1, 0),
            x -> x.book(2), x -> x.book(-1), x -> x.image(), x -> x.undo(), x -> x.act(0, 0, 0), x -> x.tape(0, 1, 2),
            x -> x.tape(3, -1, 0), x -> x.tape(2, 0, 0), x -> x.item(0, 0, 1), x -> x.shift(0, 0, 0, 1, 1)};
        for (int i = 0; i < changes.length; i++) {
            NoneSees x = some();
            changes[i].answer(x);
            d.due("change " + i + " is told", probes(x).equals(probes(some())) ? 1 : 0, 0);
        }
        d.due("no change is", probes(some()).equals(probes(some())) ? 1 : 0, 1);
    }
}
