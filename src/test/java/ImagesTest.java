/** Promises 37 to 40: images, counts, what a call was refused by. */
public final class ImagesTest {
    private static final int NONE = SeeSaws.NONE;

    private static void due(String call, long got, long want) {
        Due.due(call, got, want);
    }

    private static void promise37And38Images() {
        SeeSaws x = new SeeSaws();
        due("37: -1", x.image(-1), -1);
        due("37: 2", x.image(2), -1);
        due("38: -1", x.back(-1), -1);
        due("38: 2", x.back(2), -1);
        due("38: not kept", x.back(0), -2);
        due("37: a bare one", x.image(0), 0);
        due("38: the other one is not kept", x.back(1), -2);
        x.claim(5, 1);
        x.claim(4, 2);
        Due.forced(x, "counts 9");
        x.put(0, 2);
        x.terms(0, 7);
        x.terms(1, 8);
        x.terms(2, 5);
        x.terms(3, 3);
        x.weighed(1, 2, 1);
        x.put(1, 6);
        due("37: kept", x.image(1), 0);
        due("37: it leaves what can be undone", x.count(5), 1);
        x.pad(0, 30);
        x.take(1);
        x.pass();
        x.claim(1, 1);
        x.force(NONE);
        Due.law(x, "bars");
        x.terms(1, 0);
        x.weighed(1, 2, 2);
        x.days(3, 4);
        int drawn = x.drawn(2, 0);
        due("38: back", x.back(1), 0);
        due("38: claims", x.count(0), 2);
        due("38: HEAVY, KIND, PLACE", x.of(0, 0) * 100 + x.of(0, 1) * 10 + x.of(0, 2), 512);
        due("38: ON again", x.of(1, 2), 6);
        due("38: law in FORCE", x.count(12), 0);
        due("38: laws", x.count(4), 1);
        due("38: what counts", x.of(1, 3), 9);
        due("38: terms", x.count(13) * 1000 + x.count(14) * 100 + x.count(15) * 10 + x.count(16), 7853);
        due("38: weighed", x.count(3), 1);
        due("38: what came", x.canBe(), 16384 + 1 + 2 + 4 + 8 - 2 - 4);
        due("38: nothing can be undone", x.count(5), 0);
        due("38: the latest DAYS stay", x.drawn(2, 0), drawn);
        x.put(0, 5);
        due("38: once more", x.back(1), 0);
        due("38: once more", x.of(0, 2), 2);
        due("38: to the bare one", x.back(0), 0);
        due("38: bare", x.count(0) + x.count(3) + x.count(4), 0);
        due("38: bare", x.count(12), NONE);
        due("38: images stay", x.back(1), 0);
        due("38: images stay", x.count(0), 2);
    }

    private static void whatImagesDoNotKeep() {
        SeeSaws x = new SeeSaws();
        x.image(0);
        Due.tape(x, "\1\0\0\0\0\0");
        x.row();
        Due.law(x, "bars x");
        Due.orders(x, "pass; take 5");
        Due.law(x, "bars x");
        Due.tape(x, "bars");
        x.back(0);
        due("38: TAPE", x.count(6), 4);
        due("38: FAULT", x.fault(), 5);
        due("38: SAWDUST", x.sawdust(), 2);
        due("38: stopped", x.stopped(), 1);
        due("39: refused", x.count(11) * 10 + x.count(9), 21);
        due("38: the TAPE can be read", x.law(), 0);
        x.image(0);
        x.end(0);
        Due.tape(x, "counts 1");
        x.law();
        x.back(0);
        due("38: a law's number is free again", Due.law(x, "counts 2"), 1);
    }

    private static void promise39Count() {
        SeeSaws x = new SeeSaws();
        x.claim(5, 0);
        x.claim(6, 0);
        x.put(1, 0);
        due("39: CLAIMS", x.count(0), 2);
        due("39: ON", x.count(1), 1);
        due("39: HEAVY together", x.count(2), 11);
        x.claim(0, 0);
        x.terms(9, 9);
        x.force(4);
        x.take(0);
        x.take(5);
        x.undo();
        x.undo();
        x.undo();
        x.row();
        x.days(0, 0);
        x.image(9);
        x.back(0);
        due("39: -1", x.count(7), 4);
        due("39: -2", x.count(8), 3);
        due("39: -3", x.count(9), 3);
        due("39: -5", x.count(10), 0);
        due("39: -6", x.count(11), 1);
        x.of(9, 9);
        x.end(9);
        x.settle(9);
        x.few(0, 0);
        x.compare(9);
        due("39: NONE is no refusal", x.count(7), 4);
        for (int n = 0; n < 6; n++) {
            x.claim(1, 1);
        }
        due("39: -5", x.count(10), 1);
        due("39: -1", x.count(-1), NONE);
        due("39: 17", x.count(17), NONE);
    }

    private static void promise40Status() {
        SeeSaws x = new SeeSaws();
        due("40: ahead of any", x.status(), 0);
        due("40: claim", x.claim(0, 0) - x.status(), 0);
        x.claim(3, 3);
        due("40: claim", x.status(), 0);
        due("40: terms", x.terms(4, 0) - x.status(), 0);
        due("40: row", x.row() - x.status(), 0);
        due("40: law", x.law() - x.status(), 0);
        due("40: orders", Due.orders(x, "take 0") - x.status(), 0);
        due("40: force", x.force(0) - x.status(), 0);
        due("40: put", x.put(0, 7) - x.status(), 0);
        due("40: take", x.take(1) - x.status(), 0);
        due("40: pad", x.pad(0, 3) - x.status(), 0);
        due("40: of, settle, feed, end, forget leave it",
                0 * (x.of(0, 0) + x.settle(0) + x.feed(0, 0, 0, 0, 0) + x.end(0) + x.forget()) + x.status(), -3);
        x.terms(0, 999);
        due("40: pass", x.pass() - x.status(), 0);
        due("40: undo", x.undo() - x.status(), 0);
        due("40: weighed", x.weighed(1, 1, 0) - x.status(), 0);
        due("40: image", x.image(2) - x.status(), 0);
        due("40: back", x.back(0) - x.status(), 0);
        due("40: days", x.days(0, 0) - x.status(), 0);
        due("40: days", 0 * x.days(0, 1) + x.status(), 0);
        x.back(0);
        due("40: put", 0 * x.put(0, 3) + x.status(), 0);
        x.back(0);
        due("40: force, which tells NONE", x.force(NONE) + x.status(), -1);
    }

    public static void main(String[] args) {
        promise37And38Images();
        whatImagesDoNotKeep();
        promise39Count();
        promise40Status();
        Due.end();
    }
}
