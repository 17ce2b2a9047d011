/**
 * Boundary cases of Terms IV (IMAGES) and of promises 37 to 40; a test for each sentence that names one, with the
 * sentence above it. What a refused call leaves is in RefusedTest.
 */
public final class EdgesOfImagesTest {
    private static final int NONE = SeeSaws.NONE;
    private static final int LEAST = Integer.MIN_VALUE;
    private static final int MOST = Integer.MAX_VALUE;

    private static void due(String call, long got, long want) {
        Due.due(call, got, want);
    }

    // ---- IMAGES, promises 37 and 38 ----

    /** "IMAGES 0, 1": promise 37: "-1". */
    private static void imageNumbers() {
        SeeSaws x = new SeeSaws();
        for (int k : new int[] {-1, 2, LEAST, MOST}) {
            due("image(" + k + ")", x.image(k), -1);
        }
        due("image(0)", x.image(0), 0);
        due("image(1)", x.image(1), 0);
        due("image(0) again", x.image(0), 0);
    }

    /** Promise 38: "-1; -2 it was not kept". */
    private static void backNumbers() {
        SeeSaws x = new SeeSaws();
        due("back(0)", x.back(0), -2);
        due("back(1)", x.back(1), -2);
        for (int k : new int[] {-1, 2, LEAST, MOST}) {
            due("back(" + k + ")", x.back(k), -1);
        }
        x.image(1);
        due("the other one is not kept", x.back(0), -2);
        due("back(1)", x.back(1), 0);
        x.image(0);
        due("back(0)", x.back(0), 0);
    }

    /** "BACK to one all that it keeps is as it was then": to a bare plank from a full one. */
    private static void backToABareOne() {
        SeeSaws x = new SeeSaws();
        x.image(0);
        fill(x);
        due("back", x.back(0), 0);
        int[] bare = {0, 0, 0, 0, 0, 0};
        for (int what = 0; what < 6; what++) {
            due("count(" + what + ")", x.count(what), bare[what]);
        }
        due("no law in FORCE", x.count(12), NONE);
        due("DAY", x.count(13), 0);
        due("BIRDS", x.count(14), 1);
        due("MOOD, SLACK", x.count(15) + x.count(16), 0);
        due("claim 0", x.of(0, 0), NONE);
        due("law 0", x.force(0), -2);
        due("tilt", x.tilt(0), 0);
        due("it can be", x.canBe(), 1 << 14);
        due("a new claim is the first", x.claim(2, 0), 0);
        due("OFF", x.of(0, 2), NONE);
        due("a new law is the first", Due.law(x, "counts 3"), 0);
        due("a new weighing is the first", x.weighed(1, 0, 1), 1);
    }

    /** "BACK to one all that it keeps is as it was then": to a full plank from a bare one. */
    private static void backToAFullOne() {
        SeeSaws x = new SeeSaws();
        x.image(0);
        fill(x);
        x.image(1);
        x.back(0);
        due("back", x.back(1), 0);
        due("claims, ON", x.count(0) * 10 + x.count(1), 77);
        due("heavy of all", x.count(2), 7 * 29);
        due("weighed, laws", x.count(3) * 10 + x.count(4), 66);
        due("law in FORCE", x.count(12), 5);
        due("DAY", x.count(13), 999);
        due("BIRDS", x.count(14), 10);
        due("MOOD, SLACK", x.count(15) * 10 + x.count(16), 99);
        for (int claim = 0; claim < 7; claim++) {
            due("heavy, kind, place, counts of " + claim,
                    x.of(claim, 0) * 10000 + x.of(claim, 1) * 1000 + x.of(claim, 2) * 100 + x.of(claim, 3),
                    290000 + 3000 + claim * 100 + 15);
        }
        due("no room for a claim", x.claim(1, 0), -5);
        due("no room for a law", Due.law(x, "bars"), -5);
        due("no room to weigh", x.weighed(0, 0, 0), -5);
        due("law 0 as it was", x.compare(0), 0);
    }

    /** Seven claims at seven places, six laws, six weighings, all terms at their most, 16 to undo. */
    private static void fill(SeeSaws x) {
        for (int claim = 0; claim < 7; claim++) {
            x.claim(30, 3);
        }
        for (int law = 0; law < 6; law++) {
            Due.law(x, "counts " + law * 3);
        }
        x.force(5);
        int[] most = {999, 10, 9, 9};
        for (int what = 0; what < 4; what++) {
            x.terms(what, most[what]);
        }
        for (int n = 0; n < 6; n++) {
            x.weighed(1, 2, 0);
        }
        for (int claim = 0; claim < 7; claim++) {
            x.pad(claim, 29);
            x.put(claim, (claim + 1) % 7);
            x.put(claim, claim);
        }
        due("16 to undo", x.count(5), 16);
    }

    /** ".. what can be undone (nothing, behind back())". */
    private static void nothingToUndoBehindBack() {
        SeeSaws x = Due.plank(5);
        x.put(0, 0);
        x.image(0);
        due("image() leaves it", x.count(5), 1);
        due("back", x.back(0), 0);
        due("none", x.count(5), 0);
        due("none", x.undo(), -3);
        x.put(0, 1);
        due("what is behind it can be", x.undo(), 0);
        due("where it was", x.of(0, 2), 0);
    }

    /** A refused back() leaves what can be undone. */
    private static void undoBehindRefusedBack() {
        SeeSaws x = Due.plank(5);
        x.put(0, 0);
        x.back(0);
        x.back(2);
        x.image(2);
        due("one", x.count(5), 1);
        due("undo", x.undo(), 0);
    }

    /** "all that it keeps is as it was then": KINDS and what was weighed, though others stood in their place since. */
    private static void kindsAndWeighingsComeAgain() {
        SeeSaws x = new SeeSaws();
        x.image(0);
        x.claim(5, 1);
        x.claim(5, 2);
        x.weighed(1, 2, 1);
        x.image(1);
        x.back(0);
        x.claim(5, 3);
        x.claim(5, 0);
        x.weighed(2, 1, 0);
        due("none is false", x.canBe(), 1 << 14);
        x.back(1);
        due("kinds", x.of(0, 1) * 10 + x.of(1, 1), 12);
        due("0 more or 1 less", x.canBe(), 1 + 8);
        x.forget();
        x.weighed(0, 1, 1);
        due("it can't be", x.canBe(), 0);
        x.back(1);
        due("0 more or 1 less", x.canBe(), 1 + 8);
    }

    /** "(IMAGES stay)": behind back() to it and to the other one, and behind what is done since. */
    private static void imagesStay() {
        SeeSaws x = Due.plank(5);
        x.image(0);
        x.claim(6, 0);
        x.image(1);
        x.claim(7, 0);
        for (int n = 0; n < 3; n++) {
            due("back to 0", x.back(0) + x.count(0), 1);
            x.pad(0, 30);
            x.claim(8, 0);
            due("back to 1", x.back(1) + x.count(0), 2);
            due("5, 6", x.of(0, 0) * 10 + x.of(1, 0), 56);
            x.pad(1, 30);
        }
    }

    /** An IMAGE that is kept again is as it is now; the other one is left. */
    private static void imageKeptAgain() {
        SeeSaws x = Due.plank(5);
        x.image(0);
        x.image(1);
        x.pad(0, 6);
        x.image(0);
        x.pad(0, 7);
        x.back(0);
        due("6", x.of(0, 0), 6);
        x.back(1);
        due("5", x.of(0, 0), 5);
    }

    /** A law that was in an IMAGE stays as it was, though its number was given again since. */
    private static void lawsOfImagesStay() {
        SeeSaws x = Due.placed(1, 4);
        x.image(0);
        Due.forced(x, "counts 11");
        x.image(1);
        x.back(0);
        Due.forced(x, "counts 22");
        due("the new one", x.tilt(0), 22);
        x.back(1);
        due("the old one", x.tilt(0), 11);
        due("one law", x.count(4), 1);
    }

    /** "IMAGES 0, 1 keep all but the TAPE, FAULT, SAWDUST, where ORDERS stopped, ..., the latest DAYS". */
    private static void whatImagesDoNotKeep() {
        SeeSaws x = Due.plank(5);
        x.image(0);
        x.claim(6, 0);
        Due.tape(x, "\0\0\0");
        x.row();
        Due.orders(x, "pass;take 0");
        Due.law(x, "bars x");
        x.days(0, 1);
        Due.tape(x, "bars");
        x.back(0);
        due("TAPE", x.count(6), 4);
        due("FAULT", x.fault(), 5);
        due("SAWDUST", x.sawdust(), 2);
        due("stopped", x.stopped(), 1);
        due("DAYS of a claim that is not there any more", x.drawn(1, 0), 6);
        due("it is not there", x.of(1, 0), NONE);
    }

    /** The same, the other way: what there was at image() does not come again by back(). */
    private static void whatDoesNotComeAgain() {
        SeeSaws x = Due.plank(5);
        Due.tape(x, "\0\0\0");
        x.row();
        Due.law(x, "bars x");
        Due.orders(x, "take 0");
        Due.law(x, "bars x");
        x.days(0, 1);
        int drawn = x.drawn(0, 1);
        Due.tape(x, "bars");
        x.image(0);
        x.end(0);
        Due.tape(x, "\1\0");
        x.row();
        Due.orders(x, "pass");
        x.days(0, 2);
        x.back(0);
        due("TAPE", x.count(6), 0);
        due("FAULT", x.fault(), NONE);
        due("SAWDUST", x.sawdust(), 0);
        due("stopped", x.stopped(), NONE);
        due("DAYS ahead: 3", drawn, 3);
        due("DAYS of two, of two claims", x.drawn(1, 0), 1);
    }

    // ---- count, promise 39 ----

    /** "NONE for others." */
    private static void countOthers() {
        SeeSaws x = new SeeSaws();
        for (int what : new int[] {-1, 17, -2, 18, LEAST, MOST}) {
            due("count(" + what + ")", x.count(what), NONE);
        }
        due("count(0)", x.count(0), 0);
        due("count(16)", x.count(16), 0);
    }

    /** "0 CLAIMS, 1 how many are ON, 2 HEAVY of all together, 3 WEIGHED, 4 LAWS, 5 .. undone": all that is full. */
    private static void countOfAllThatIsFull() {
        SeeSaws x = new SeeSaws();
        fill(x);
        for (int n = 0; n < 20; n++) {
            x.feed(0, 0, 0, 0, 0);
        }
        int[] full = {7, 7, 203, 6, 6, 16, 400};
        for (int what = 0; what < full.length; what++) {
            due("count(" + what + ")", x.count(what), full[what]);
        }
        int[] terms = {5, 999, 10, 9, 9};
        for (int what = 0; what < terms.length; what++) {
            due("count(" + (12 + what) + ")", x.count(12 + what), terms[what]);
        }
        due("heaviest", Due.seven(30, 7).count(2), 210);
    }

    /** "7 .. 11 how many calls were REFUSED by -1, -2, -3, -5, -6": each alone, again and again. */
    private static void countOfRefused() {
        SeeSaws x = Due.seven(1, 7);
        for (int n = 1; n <= 3; n++) {
            x.claim(0, 0);
            x.force(0);
            x.take(0);
            x.claim(1, 0);
            x.row();
            for (int what = 7; what <= 11; what++) {
                due("count(" + what + ")", x.count(what), n);
            }
        }
    }

    /** "(IMAGES do not keep that)". */
    private static void countOfRefusedBehindBack() {
        SeeSaws x = Due.plank(1);
        x.claim(0, 0);
        x.image(0);
        x.claim(0, 0);
        x.take(0);
        due("back", x.back(0), 0);
        due("two by -1", x.count(7), 2);
        due("one by -3", x.count(9), 1);
    }

    /** Orders that stop are one REFUSED call, by -3, whatever stopped them. */
    private static void countOfOrdersThatStop() {
        SeeSaws x = Due.plank(1);
        Due.orders(x, "take 5");
        Due.orders(x, "put 0 at 9");
        Due.orders(x, "pad 0 to 1/0");
        due("-1, -2", x.count(7) + x.count(8), 0);
        due("-3", x.count(9), 3);
    }

    // ---- status, promise 40 ----

    /** "0 if it was not, or ahead of any"; each of the calls, refused and not. */
    private static void statusOfEach() {
        SeeSaws x = new SeeSaws();
        due("ahead of any", x.status(), 0);
        status(x, "claim", x.claim(0, 0), -1);
        status(x, "claim", x.claim(2, 0), 0);
        status(x, "terms", x.terms(0, -1), -1);
        status(x, "terms", x.terms(0, 998), 0);
        status(x, "row", x.row(), -6);
        Due.tape(x, "\0");
        status(x, "row", x.row(), 0);
        status(x, "law", Due.law(x, "x"), -6);
        status(x, "law", Due.law(x, "counts 2"), 0);
        status(x, "orders", Due.orders(x, "x"), -6);
        status(x, "orders", Due.orders(x, "take 0"), -3);
        status(x, "orders", Due.orders(x, "pass if 1=2"), 0);
        status(x, "force", x.force(1), -2);
        status(x, "put", x.put(0, 7), -1);
        status(x, "put", x.put(1, 0), -2);
        status(x, "put", x.put(0, 3), 0);
        status(x, "put", x.put(0, 3), -3);
        status(x, "take", x.take(1), -2);
        status(x, "take", x.take(0), 0);
        status(x, "take", x.take(0), -3);
        status(x, "pad", x.pad(0, 0), -1);
        status(x, "pad", x.pad(1, 1), -2);
        status(x, "pad", x.pad(0, 2), -3);
        status(x, "pad", x.pad(0, 1), 2);
        status(x, "pass", x.pass(), 0);
        status(x, "pass", x.pass(), -3);
        status(x, "undo", x.undo(), 3);
        status(x, "weighed", x.weighed(1, 1, 0), -1);
        status(x, "weighed", x.weighed(2, 1, 0), -2);
        status(x, "weighed", x.weighed(1, 0, 1), 1);
        status(x, "days", x.days(0, 0), -1);
        status(x, "days", x.days(0, 1), 0);
        status(x, "image", x.image(2), -1);
        status(x, "image", x.image(0), 0);
        status(x, "back", x.back(2), -1);
        status(x, "back", x.back(1), -2);
        status(x, "back", x.back(0), 0);
        status(x, "undo", x.undo(), -3);
    }

    private static void status(SeeSaws x, String call, int answer, int want) {
        due(call, answer, want);
        due("status behind " + call + " " + want, x.status(), Math.min(0, want));
    }

    /** A call that is not refused may answer NONE: force() tells which was. */
    private static void statusOfForce() {
        SeeSaws x = new SeeSaws();
        x.force(0);
        due("refused", x.status(), -2);
        due("none was", x.force(NONE), NONE);
        due("not refused", x.status(), 0);
        due("no refusal is counted", x.count(7), 0);
        Due.law(x, "bars");
        due("none was", x.force(0), NONE);
        due("not refused", x.status(), 0);
    }

    public static void main(String[] args) throws ReflectiveOperationException {
        Due.runAll(EdgesOfImagesTest.class);
    }
}
