/** Promises 1 to 6 and 15 to 20: claims, places, terms, what is done and undone. */
public final class PlankTest {
    private static final int NONE = SeeSaws.NONE;

    private static void due(String call, long got, long want) {
        Due.due(call, got, want);
    }

    private static void promise1NewObject() {
        SeeSaws x = new SeeSaws();
        for (int what = 0; what <= 11; what++) {
            due("1: count(" + what + ")", x.count(what), 0);
        }
        due("1: count(12)", x.count(12), NONE);
        due("1: DAY", x.count(13), 0);
        due("1: BIRDS", x.count(14), 1);
        due("1: MOOD", x.count(15), 0);
        due("1: SLACK", x.count(16), 0);
        due("1: status()", x.status(), 0);
        due("1: fault()", x.fault(), NONE);
        due("1: stopped()", x.stopped(), NONE);
        due("1: sawdust()", x.sawdust(), 0);
        due("1: tilt(2)", x.tilt(2), 1);
        due("1: drawn(0, 0)", x.drawn(0, 0), NONE);
        due("1: undo()", x.undo(), -3);
        due("1: back(0)", x.back(0), -2);
        due("1: NONE", SeeSaws.NONE, -1);
    }

    private static void promise2Claim() {
        SeeSaws x = new SeeSaws();
        due("2: too light", x.claim(0, 0), -1);
        due("2: too heavy", x.claim(31, 0), -1);
        due("2: kind -1", x.claim(1, -1), -1);
        due("2: kind 4", x.claim(1, 4), -1);
        due("2: lightest", x.claim(1, 0), 0);
        due("2: heaviest", x.claim(30, 3), 1);
        for (int n = 2; n < 7; n++) {
            due("2: claim " + n, x.claim(n, n % 4), n);
        }
        due("2: no room", x.claim(1, 0), -5);
        due("2: -1 ahead of -5", x.claim(0, 0), -1);
        due("2: count", x.count(0), 7);
        due("2: OFF at first", x.count(1), 0);
    }

    private static void promise3Of() {
        SeeSaws x = new SeeSaws();
        x.claim(6, 2);
        due("3: HEAVY", x.of(0, 0), 6);
        due("3: KIND", x.of(0, 1), 2);
        due("3: OFF", x.of(0, 2), NONE);
        due("3: counts, OFF", x.of(0, 3), NONE);
        due("3: sheds, OFF", x.of(0, 4), NONE);
        Due.forced(x, "counts heavy + place * 10; sheds kind + 1");
        x.put(0, 4);
        due("3: PLACE", x.of(0, 2), 4);
        due("3: counts", x.of(0, 3), 46);
        due("3: sheds", x.of(0, 4), 3);
        due("3: what -1", x.of(0, -1), NONE);
        due("3: what 5", x.of(0, 5), NONE);
        due("3: claim 1", x.of(1, 0), NONE);
        due("3: claim -1", x.of(-1, 0), NONE);
    }

    private static void promise4Asks() {
        SeeSaws x = Due.plank(5, 4);
        Due.forced(x, "counts heavy * 2 if arm > 0; bars if place = 6");
        x.put(0, 1);
        due("4: counts left", x.asks(1, 0, 0), 4);
        due("4: counts right", x.asks(1, 5, 0), 8);
        due("4: not barred", x.asks(1, 5, 1), 0);
        due("4: barred", x.asks(1, 6, 1), 1);
        due("4: tilt of one OFF there", x.asks(1, 5, 2), 6);
        due("4: tilt of one OFF at a barred place", x.asks(1, 6, 2), 14);
        due("4: tilt of one ON elsewhere", x.asks(0, 4, 2), 10);
        due("4: tilt where it is", x.asks(0, 1, 2), 10);
        due("4: place 7", x.asks(0, 7, 0), NONE);
        due("4: place -1", x.asks(0, -1, 2), NONE);
        due("4: what 3", x.asks(0, 0, 3), NONE);
        due("4: what -1", x.asks(0, 0, -1), NONE);
        due("4: no such claim", x.asks(2, 0, 0), NONE);
        due("4: nothing is put", x.count(1), 1);
    }

    private static void promise5Tilt() {
        SeeSaws x = Due.plank(3, 3);
        due("5: bare", x.tilt(1), 0);
        x.put(0, 0);
        due("5: left by 9", x.tilt(0), 9);
        due("5: left is down", x.tilt(1), 1);
        due("5: not level", x.tilt(2), 0);
        x.terms(3, 9);
        due("5: level within slack", x.tilt(2), 1);
        due("5: left is down all the same", x.tilt(1), 1);
        x.terms(3, 8);
        due("5: beyond slack", x.tilt(2), 0);
        x.put(0, 6);
        due("5: right by 9", x.tilt(0), 9);
        due("5: right is down", x.tilt(1), 2);
        x.put(1, 0);
        due("5: even", x.tilt(1), 0);
        due("5: even, level", x.tilt(2), 1);
        due("5: what 3", x.tilt(3), NONE);
        due("5: what -1", x.tilt(-1), NONE);
    }

    private static void promise6Terms() {
        SeeSaws x = Due.plank(3);
        int[] first = {0, 1, 0, 0};
        int[] most = {999, 10, 9, 9};
        for (int what = 0; what < 4; what++) {
            due("6: term " + what, x.terms(what, most[what]), first[what]);
            due("6: beyond " + what, x.terms(what, most[what] + 1), -1);
            due("6: below " + what, x.terms(what, -1), -1);
            due("6: it stays " + what, x.count(13 + what), most[what]);
            due("6: back to 0 " + what, x.terms(what, 0), most[what]);
        }
        due("6: what 4", x.terms(4, 0), -1);
        due("6: what -1", x.terms(-1, 0), -1);
        due("6: status", x.status(), -1);
    }

    private static void promise15Force() {
        SeeSaws x = Due.plank(5);
        due("15: NONE", x.force(NONE), NONE);
        due("15: status behind NONE", x.status(), 0);
        due("15: no law", x.force(0), -2);
        due("15: below NONE", x.force(-2), -2);
        Due.law(x, "counts 7");
        Due.law(x, "counts 9");
        due("15: not yet in force", x.count(12), NONE);
        x.put(0, 4);
        due("15: first", x.force(0), NONE);
        due("15: tilt by it", x.tilt(0), 7);
        due("15: second", x.force(1), 0);
        due("15: tilt by it", x.tilt(0), 9);
        due("15: count(12)", x.count(12), 1);
        due("15: it leaves what can be undone", x.count(5), 1);
        due("15: none again", x.force(NONE), 1);
        due("15: tilt by none", x.tilt(0), 5);
        due("15: law 2", x.force(2), -2);
        due("15: undo", x.undo(), 0);
    }

    private static void promise16Put() {
        SeeSaws x = Due.plank(5, 2);
        due("16: put", x.put(0, 0), 15);
        due("16: it is there", x.put(0, 0), -3);
        due("16: elsewhere", x.put(0, 2), 5);
        due("16: the other one", x.put(1, 6), 1);
        due("16: place 7", x.put(0, 7), -1);
        due("16: place -1", x.put(0, -1), -1);
        due("16: -1 ahead of -2", x.put(9, 7), -1);
        due("16: claim 2", x.put(2, 0), -2);
        due("16: claim -1", x.put(-1, 0), -2);
        Due.forced(x, "bars if place = 3 and claim = 0; counts heavy + 1");
        due("16: barred", x.put(0, 3), -3);
        due("16: the other one is not barred, tilt by the law", x.put(1, 3), 6);
        due("16: status", x.status(), 0);
        due("16: all on one place", x.put(1, 2), 9);
    }

    private static void promise17Take() {
        SeeSaws x = Due.plank(5, 2);
        due("17: OFF", x.take(0), -3);
        due("17: claim 2", x.take(2), -2);
        due("17: claim -1", x.take(-1), -2);
        x.put(0, 1);
        x.put(1, 6);
        due("17: take", x.take(0), 6);
        due("17: it is OFF", x.of(0, 2), NONE);
        due("17: again", x.take(0), -3);
        Due.forced(x, "bars");
        due("17: a barred one can be taken", x.take(1), 0);
    }

    private static void promise18Pad() {
        SeeSaws x = Due.plank(5);
        due("18: pad", x.pad(0, 30), 5);
        due("18: it is so", x.pad(0, 30), -3);
        due("18: to 1", x.pad(0, 1), 30);
        due("18: to 0", x.pad(0, 0), -1);
        due("18: to 31", x.pad(0, 31), -1);
        due("18: -1 ahead of -2", x.pad(4, 0), -1);
        due("18: no such claim", x.pad(1, 5), -2);
        due("18: HEAVY", x.of(0, 0), 1);
    }

    private static void promise19Pass() {
        SeeSaws x = Due.plank(5, 2, 1, 9);
        x.put(0, 0);
        x.put(1, 1);
        x.put(2, 2);
        due("19: nothing sheds", x.pass(), 0);
        due("19: the next DAY", x.count(13), 1);
        Due.forced(x, "sheds 3 if day < 3; sheds 99 if day = 3");
        due("19: two are less heavy, one is 1", x.pass(), 2);
        due("19: 5 less 3", x.of(0, 0), 2);
        due("19: 1 at least", x.of(1, 0), 1);
        due("19: 1 stays", x.of(2, 0), 1);
        due("19: OFF stays", x.of(3, 0), 9);
        x.put(3, 3);
        x.pad(3, 30);
        x.terms(0, 3);
        due("19: 9 at most", x.of(3, 4), 9);
        due("19: pass", x.pass(), 2);
        due("19: 30 less 9", x.of(3, 0), 21);
        x.terms(0, 998);
        due("19: to the last DAY", x.pass(), 0);
        due("19: the last DAY", x.pass(), -3);
        due("19: it stays", x.count(13), 999);
    }

    private static void promise20Undo() {
        SeeSaws x = Due.plank(5, 4);
        Due.forced(x, "sheds 2");
        x.put(0, 0);
        x.put(0, 6);
        x.pad(0, 9);
        x.pass();
        x.take(0);
        due("20: take", x.undo(), 1);
        due("20: it is ON again", x.of(0, 2), 6);
        due("20: pass", x.undo(), 3);
        due("20: HEAVY as ahead", x.of(0, 0), 9);
        due("20: DAY as ahead", x.count(13), 0);
        due("20: pad", x.undo(), 2);
        due("20: HEAVY", x.of(0, 0), 5);
        due("20: put", x.undo(), 0);
        due("20: where it was", x.of(0, 2), 0);
        due("20: put", x.undo(), 0);
        due("20: OFF", x.of(0, 2), NONE);
        due("20: none", x.undo(), -3);
        for (int i = 0; i < 20; i++) {
            x.put(0, i % 7);
        }
        due("20: 16 are kept", x.count(5), 16);
        for (int i = 0; i < 16; i++) {
            due("20: undo " + i, x.undo(), 0);
        }
        due("20: 16, not more", x.undo(), -3);
        due("20: behind four puts", x.of(0, 2), 3);
        x.put(0, 5);
        due("20: refused calls leave it", x.claim(0, 0) + x.terms(9, 0) + x.count(5), -1);
        x.end(0);
        due("20: a refused row leaves it", x.row() + x.count(5), -5);
        x.weighed(1, 2, 0);
        x.forget();
        x.image(0);
        due("20: weighed, image leave it", x.count(5), 1);
        x.claim(1, 1);
        due("20: behind claim", x.undo(), -3);
        x.put(0, 1);
        x.terms(2, 0);
        due("20: behind terms", x.undo(), -3);
        x.put(0, 2);
        Due.tape(x, "\0\0");
        due("20: a row of sawdust", x.row(), 0);
        due("20: behind row", x.undo(), -3);
        due("20: orders", Due.orders(x, "pad 0 to 8;put 0 at 5"), 2);
        due("20: undo of orders", x.undo(), 0);
        due("20: undo of orders", x.undo(), 2);
        x.put(0, 6);
        x.back(0);
        due("20: behind back", x.undo(), -3);
    }

    private static void undoBehindOrdersThatStop() {
        SeeSaws x = Due.plank(5);
        for (int i = 0; i < 16; i++) {
            x.put(0, i % 7);
        }
        due("20: orders stop", Due.orders(x, "pass times 20; take 5"), -3);
        due("20: kept as ahead", x.count(5), 16);
        for (int i = 15; i > 0; i--) {
            due("20: undo", x.undo(), 0);
            due("20: place", x.of(0, 2), (i - 1) % 7);
        }
    }

    public static void main(String[] args) {
        promise1NewObject();
        promise2Claim();
        promise3Of();
        promise4Asks();
        promise5Tilt();
        promise6Terms();
        promise15Force();
        promise16Put();
        promise17Take();
        promise18Pad();
        promise19Pass();
        promise20Undo();
        undoBehindOrdersThatStop();
        Due.end();
    }
}
