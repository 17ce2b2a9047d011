import java.util.Map;
import java.util.function.Supplier;
import java.util.function.ToLongFunction;

/**
 * Calls that are REFUSED, by each number that their promises name, and with two of them at once; calls that answer
 * NONE; calls that ask on paper. Each is made on one of two objects that were used alike; then all that can be seen
 * of both must be the same but for what the promise says.
 */
public final class RefusedTest {
    private static final int NONE = SeeSaws.NONE;
    private static final int LEAST = Integer.MIN_VALUE;
    private static final int MOST = Integer.MAX_VALUE;
    private static final int[] REFUSALS = {-1, -2, -3, -5, -6};

    // ---- what the calls are made on ----

    private static SeeSaws bare() {
        return new SeeSaws();
    }

    /** Something of everything: claim 0 at place 0, claim 1 OFF, claim 2 at 4; place 6 is barred; status() is -1. */
    private static SeeSaws some() {
        SeeSaws x = new SeeSaws();
        x.image(0);
        Due.tape(x, "\0\0\5\1\6");
        x.row();
        x.claim(6, 2);
        x.claim(7, 3);
        int[] terms = {7, 3, 4, 2};
        for (int what = 0; what < 4; what++) {
            x.terms(what, terms[what]);
        }
        Due.law(x, "counts 2");
        Due.forced(x, "counts heavy + 1; sheds 1; bars if place = 6");
        x.weighed(1, 2, 2);
        x.days(3, 5);
        x.image(1);
        Due.orders(x, "pass; take 9");
        Due.law(x, "bars x");
        x.put(0, 0);
        x.put(1, 4);
        x.put(2, 4);
        x.pad(0, 9);
        x.pass();
        x.take(1);
        x.put(0, 7);
        Due.tape(x, "\5\1\6\2\0");
        return x;
    }

    /** All that can be full: 7 claims, 6 laws, 6 weighed, 16 to undo, DAY 999. */
    private static SeeSaws full() {
        SeeSaws x = new SeeSaws();
        x.image(0);
        for (int claim = 0; claim < 7; claim++) {
            x.claim(claim + 1, claim % 4);
        }
        x.terms(0, 999);
        for (int law = 0; law < 6; law++) {
            Due.law(x, "counts " + law);
            x.weighed(1, 2, 2);
        }
        x.force(5);
        for (int n = 0; n < 17; n++) {
            x.put(n % 7, n / 7);
        }
        Due.tape(x, "\5\1\6\2\0");
        return x;
    }

    // ---- how the two are compared ----

    private static void same(String call, Map<String, Long> got, Map<String, Long> want) {
        for (String name : want.keySet()) {
            Due.due(name + " behind " + call, got.get(name), want.get(name));
        }
    }

    /** Refused by that; nothing else changes. */
    private static void refused(String call, Supplier<SeeSaws> stand, ToLongFunction<SeeSaws> made, int by) {
        SeeSaws x = stand.get();
        Due.due(call, made.applyAsLong(x), by);
        Map<String, Long> want = Seen.of(stand.get());
        countRefused(want, by);
        same(call, Seen.of(x), want);
    }

    private static void countRefused(Map<String, Long> want, int by) {
        want.put("status()", (long) by);
        for (int i = 0; i < REFUSALS.length; i++) {
            if (REFUSALS[i] == by) {
                want.merge("count(" + (7 + i) + ")", 1L, Long::sum);
            }
        }
    }

    /** It answers that; nothing at all changes, not even status(). */
    private static void leavesAll(String call, Supplier<SeeSaws> stand, ToLongFunction<SeeSaws> made, long answer) {
        SeeSaws x = stand.get();
        Due.due(call, made.applyAsLong(x), answer);
        same(call, Seen.of(x), Seen.of(stand.get()));
    }

    private static void none(String call, ToLongFunction<SeeSaws> made) {
        leavesAll(call, RefusedTest::some, made, NONE);
    }

    /** A text that is refused: the tape is empty then, and fault() and stopped() tell of it. */
    private static void refusedText(Supplier<SeeSaws> stand, boolean law, String text, int by, int fault, int stopped) {
        SeeSaws x = stand.get();
        Due.tape(x, text);
        String call = (law ? "law " : "orders ") + text;
        Due.due(call, law ? x.law() : x.orders(), by);
        SeeSaws y = stand.get();
        y.end(0);
        Map<String, Long> want = Seen.of(y);
        countRefused(want, by);
        want.put("fault()", (long) fault);
        want.put("stopped()", (long) stopped);
        same(call, Seen.of(x), want);
    }

    // ---- REFUSED, in the order of the promises ----

    private static void claims() {
        for (int no : new int[] {0, 31, -1, LEAST, MOST}) {
            refused("claim(" + no + ", 0)", RefusedTest::some, x -> x.claim(no, 0), -1);
            refused("claim(" + no + ", 0), no room", RefusedTest::full, x -> x.claim(no, 0), -1);
        }
        for (int no : new int[] {-1, 4, LEAST, MOST}) {
            refused("claim(1, " + no + ")", RefusedTest::some, x -> x.claim(1, no), -1);
            refused("claim(1, " + no + "), no room", RefusedTest::full, x -> x.claim(1, no), -1);
        }
        refused("claim(1, 0), no room", RefusedTest::full, x -> x.claim(1, 0), -5);
        refused("claim(0, 0), bare", RefusedTest::bare, x -> x.claim(0, 0), -1);
    }

    private static void terms() {
        int[] most = {999, 10, 9, 9};
        for (int term = 0; term < 4; term++) {
            int what = term;
            for (int no : new int[] {-1, most[what] + 1, LEAST, MOST}) {
                refused("terms(" + what + ", " + no + ")", RefusedTest::some, x -> x.terms(what, no), -1);
            }
        }
        for (int no : new int[] {-1, 4, LEAST, MOST}) {
            refused("terms(" + no + ", 0)", RefusedTest::some, x -> x.terms(no, 0), -1);
        }
    }

    private static SeeSaws emptyTape() {
        SeeSaws x = some();
        x.end(0);
        return x;
    }

    private static void rows() {
        refused("row()", RefusedTest::emptyTape, x -> x.row(), -6);
        refused("row(), bare", RefusedTest::bare, x -> x.row(), -6);
    }

    private static void laws() {
        refusedText(RefusedTest::some, true, "", -6, 0, 1);
        refusedText(RefusedTest::some, true, "   ", -6, 3, 1);
        refusedText(RefusedTest::some, true, "counts 1; bars if", -6, 17, 1);
        refusedText(RefusedTest::some, true, "take 0", -6, 0, 1);
        refusedText(RefusedTest::full, true, "bars", -5, NONE, NONE);
        refusedText(RefusedTest::full, true, "bars x", -5, NONE, NONE);
        refusedText(RefusedTest::full, true, "", -5, NONE, NONE);
        refusedText(RefusedTest::bare, true, "", -6, 0, NONE);
    }

    private static void orders() {
        refusedText(RefusedTest::some, false, "", -6, 0, NONE);
        refusedText(RefusedTest::some, false, "  ", -6, 2, NONE);
        refusedText(RefusedTest::some, false, "take 0; pass; x", -6, 14, NONE);
        refusedText(RefusedTest::some, false, "counts 1", -6, 0, NONE);
        refusedText(RefusedTest::some, false, "take 0; pad 1 to 9; pass times 20; put 1 at 0; take 0", -3, NONE, 4);
        refusedText(RefusedTest::some, false, "put 1 at 3; put 1 at 6", -3, NONE, 1);
        refusedText(RefusedTest::some, false, "pass times 20; put 0 at 1/0", -3, NONE, 1);
        refusedText(RefusedTest::some, false, "pad 2 to 0", -3, NONE, 0);
        refusedText(RefusedTest::some, false, "put 3 at 0", -3, NONE, 0);
        refusedText(RefusedTest::full, false, "take 0; put 0 at 6 times 2", -3, NONE, 1);
        refusedText(RefusedTest::full, false, "put 0 at 5; put 0 at 4; pass", -3, NONE, 2);
        refusedText(RefusedTest::bare, false, "pass times 20; take 0", -3, NONE, 1);
    }

    private static void forces() {
        for (int no : new int[] {2, -2, 6, LEAST, MOST}) {
            refused("force(" + no + ")", RefusedTest::some, x -> x.force(no), -2);
        }
        refused("force(6) of six", RefusedTest::full, x -> x.force(6), -2);
        refused("force(0), bare", RefusedTest::bare, x -> x.force(0), -2);
    }

    private static void puts() {
        for (int no : new int[] {-1, 7, LEAST, MOST}) {
            refused("put(1, " + no + ")", RefusedTest::some, x -> x.put(1, no), -1);
            refused("put(3, " + no + ")", RefusedTest::some, x -> x.put(3, no), -1);
        }
        for (int no : new int[] {-1, 3, 7, LEAST, MOST}) {
            refused("put(" + no + ", 1)", RefusedTest::some, x -> x.put(no, 1), -2);
            refused("put(" + no + ", 6), barred", RefusedTest::some, x -> x.put(no, 6), -2);
        }
        refused("put(0, 0), there", RefusedTest::some, x -> x.put(0, 0), -3);
        refused("put(0, 6), barred", RefusedTest::some, x -> x.put(0, 6), -3);
        refused("put(1, 6), barred, OFF", RefusedTest::some, x -> x.put(1, 6), -3);
        refused("put(0, 0), bare", RefusedTest::bare, x -> x.put(0, 0), -2);
    }

    private static void takes() {
        for (int no : new int[] {-1, 3, 7, LEAST, MOST}) {
            refused("take(" + no + ")", RefusedTest::some, x -> x.take(no), -2);
        }
        refused("take(1), OFF", RefusedTest::some, x -> x.take(1), -3);
        refused("take(0), bare", RefusedTest::bare, x -> x.take(0), -2);
    }

    private static void pads() {
        for (int no : new int[] {0, 31, -1, LEAST, MOST}) {
            refused("pad(0, " + no + ")", RefusedTest::some, x -> x.pad(0, no), -1);
            refused("pad(3, " + no + ")", RefusedTest::some, x -> x.pad(3, no), -1);
        }
        for (int no : new int[] {-1, 3, 7, LEAST, MOST}) {
            refused("pad(" + no + ", 5)", RefusedTest::some, x -> x.pad(no, 5), -2);
        }
        refused("pad to what it is, ON", RefusedTest::some, x -> x.pad(0, x.of(0, 0)), -3);
        refused("pad to what it is, OFF", RefusedTest::some, x -> x.pad(1, x.of(1, 0)), -3);
        refused("pad(0, 1), bare", RefusedTest::bare, x -> x.pad(0, 1), -2);
    }

    private static SeeSaws nothingToUndo() {
        SeeSaws x = some();
        x.terms(2, 5);
        return x;
    }

    private static void passesAndUndoes() {
        refused("pass() at 999", RefusedTest::full, x -> x.pass(), -3);
        refused("undo()", RefusedTest::nothingToUndo, x -> x.undo(), -3);
        refused("undo(), bare", RefusedTest::bare, x -> x.undo(), -3);
    }

    private static void weighings() {
        for (int no : new int[] {-1, 128, LEAST, MOST}) {
            refused("weighed(" + no + ", 0, 0)", RefusedTest::some, x -> x.weighed(no, 0, 0), -1);
            refused("weighed(0, " + no + ", 0)", RefusedTest::full, x -> x.weighed(0, no, 0), -1);
        }
        for (int no : new int[] {-1, 3, LEAST, MOST}) {
            refused("weighed(1, 2, " + no + ")", RefusedTest::some, x -> x.weighed(1, 2, no), -1);
            refused("weighed(8, 2, " + no + ")", RefusedTest::some, x -> x.weighed(8, 2, no), -1);
            refused("weighed(1, 2, " + no + "), no room", RefusedTest::full, x -> x.weighed(1, 2, no), -1);
        }
        refused("weighed(3, 6, 0)", RefusedTest::some, x -> x.weighed(3, 6, 0), -1);
        refused("weighed(8, 8, 0)", RefusedTest::some, x -> x.weighed(8, 8, 0), -1);
        refused("weighed(8, 1, 0)", RefusedTest::some, x -> x.weighed(8, 1, 0), -2);
        refused("weighed(1, 64, 0)", RefusedTest::some, x -> x.weighed(1, 64, 0), -2);
        refused("weighed(1, 2, 0), no room", RefusedTest::full, x -> x.weighed(1, 2, 0), -5);
        refused("weighed(0, 0, 0), no room", RefusedTest::full, x -> x.weighed(0, 0, 0), -5);
        refused("weighed(1, 0, 0), bare", RefusedTest::bare, x -> x.weighed(1, 0, 0), -2);
    }

    private static void manyDays() {
        for (int no : new int[] {-1, 1000001, LEAST, MOST}) {
            refused("days(" + no + ", 1)", RefusedTest::some, x -> x.days(no, 1), -1);
            refused("days(" + no + ", 1), bare", RefusedTest::bare, x -> x.days(no, 1), -1);
        }
        for (int no : new int[] {0, 61, -1, LEAST, MOST}) {
            refused("days(0, " + no + ")", RefusedTest::some, x -> x.days(0, no), -1);
            refused("days(0, " + no + "), bare", RefusedTest::bare, x -> x.days(0, no), -1);
        }
        refused("days(0, 1), bare", RefusedTest::bare, x -> x.days(0, 1), -3);
    }

    private static void images() {
        for (int no : new int[] {-1, 2, LEAST, MOST}) {
            refused("image(" + no + ")", RefusedTest::some, x -> x.image(no), -1);
            refused("back(" + no + ")", RefusedTest::some, x -> x.back(no), -1);
            refused("back(" + no + "), bare", RefusedTest::bare, x -> x.back(no), -1);
        }
        refused("back(0), bare", RefusedTest::bare, x -> x.back(0), -2);
        refused("back(1), not kept", RefusedTest::full, x -> x.back(1), -2);
    }

    // ---- NONE, which is no refusal ----

    private static SeeSaws fullTape() {
        SeeSaws x = some();
        x.end(0);
        for (int n = 0; n < 20; n++) {
            x.feed(0x05010602, 0, 0, 0, n);
        }
        return x;
    }

    private static void tapes() {
        leavesAll("feed, full", RefusedTest::fullTape, x -> x.feed(MOST, LEAST, 1, 2, 3), NONE);
        for (int no : new int[] {-1, 401, LEAST, MOST}) {
            leavesAll("end(" + no + "), full", RefusedTest::fullTape, x -> x.end(no), NONE);
        }
        for (int no : new int[] {-1, 6, LEAST, MOST}) {
            none("end(" + no + ") of 5", x -> x.end(no));
        }
        leavesAll("end(5) of 5", RefusedTest::some, x -> x.end(5), 5);
        leavesAll("end(0) of none", RefusedTest::bare, x -> x.end(0), 0);
        leavesAll("end(1) of none", RefusedTest::bare, x -> x.end(1), NONE);
    }

    private static void others() {
        for (int no : new int[] {-2, 7, 3, LEAST, MOST}) {
            none("of(" + no + ", 0)", x -> x.of(no, 0));
            none("asks(" + no + ", 0, 0)", x -> x.asks(no, 0, 0));
            none("settle(" + no + ")", x -> x.settle(no));
            none("least(" + no + ")", x -> x.least(no));
            none("moved(" + no + ")", x -> x.moved(no));
            none("off(" + no + ")", x -> x.off(no));
            none("compare(" + no + ")", x -> x.compare(no));
            none("drawn(" + no + ", 0)", x -> x.drawn(no, 0));
            none("tilt(" + no + ")", x -> x.tilt(no));
            none("exchanged(" + no + ")", x -> x.exchanged(no));
            none("shares(" + no + ")", x -> x.shares(no));
            none("byTurns(" + no + ")", x -> x.byTurns(no));
            none("weigh(" + no + ")", x -> x.weigh(no));
            none("drawn(0, " + no + ")", x -> x.drawn(0, no));
        }
        for (int no : new int[] {-1, 7, LEAST, MOST}) {
            none("of(0, " + no + ")", x -> x.of(0, no));
            none("asks(0, " + no + ", 0)", x -> x.asks(0, no, 0));
            none("asks(0, 0, " + no + ")", x -> x.asks(0, 0, no));
            none("few(" + no + ", 100)", x -> x.few(no, 100));
            none("few(0, " + no + ")", x -> x.few(0, no));
        }
        for (int no : new int[] {-1, 17, LEAST, MOST}) {
            none("count(" + no + ")", x -> x.count(no));
        }
    }

    // ---- on paper, nothing changes ----

    private static long allAsked(SeeSaws x) {
        long sum = 0;
        for (int claim = -1; claim < 3; claim++) {
            sum += x.settle(claim) + x.least(claim) + x.moved(claim) + x.off(claim) + x.compare(claim);
            for (int what = 0; what < 3; what++) {
                sum += x.of(claim, what) + x.asks(claim, 6, what) + x.drawn(claim, what);
            }
        }
        for (int what = 0; what < 3; what++) {
            sum += x.exchanged(what) + x.shares(what) + x.byTurns(what) + x.weigh(what) + x.tilt(what) + x.count(what);
        }
        sum += x.alone() + x.canBe() + x.few(20, 99) + x.fault() + x.stopped() + x.sawdust() + x.status();
        return sum * 0;
    }

    private static void onPaper() {
        leavesAll("all that is asked", RefusedTest::some, x -> allAsked(x), 0);
        leavesAll("all that is asked, full", RefusedTest::full, x -> allAsked(x), 0);
        leavesAll("all that is asked, bare", RefusedTest::bare, x -> allAsked(x), 0);
    }

    /** days(): what was drawn, and status(), alone. */
    private static void daysOnPaper() {
        SeeSaws x = some();
        x.days(5, 60);
        Map<String, Long> want = Seen.of(some());
        want.put("status()", 0L);
        want.keySet().removeIf(name -> name.startsWith("drawn("));
        same("days(5, 60)", Seen.of(x), want);
    }

    /** image(): that image, and status(), alone. */
    private static void imageAlone() {
        SeeSaws x = some();
        x.image(1);
        Map<String, Long> want = Seen.of(some());
        want.put("status()", 0L);
        want.keySet().removeIf(name -> name.startsWith("image 1: "));
        same("image(1)", Seen.of(x), want);
    }

    /** forget(): what was weighed alone; status() is left. */
    private static void forgetAlone() {
        SeeSaws x = some();
        Due.due("forget()", x.forget(), 1);
        Map<String, Long> want = Seen.of(some());
        want.put("count(3)", 0L);
        want.put("canBe()", (1L << 14) + 63);
        want.remove("weigh(0)");
        same("forget()", Seen.of(x), want);
    }

    /** force(): the law in FORCE, and what goes by it, and status(). */
    private static void forceAlone() {
        SeeSaws x = some();
        Due.due("force(0)", x.force(0), 1);
        Map<String, Long> want = Seen.of(some());
        want.put("status()", 0L);
        want.put("count(12)", 0L);
        want.keySet().removeIf(name -> name.startsWith("asks(") || name.startsWith("tilt("));
        same("force(0)", Seen.of(x), want);
    }

    public static void main(String[] args) throws ReflectiveOperationException {
        Due.runAll(RefusedTest.class);
    }
}
