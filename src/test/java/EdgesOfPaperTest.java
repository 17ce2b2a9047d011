/**
 * Boundary cases of Terms III (on paper) and IV (DAYS) and of promises 21 to 36; a test for each sentence that names
 * one, with the sentence above it. What a refused call leaves is in RefusedTest.
 */
public final class EdgesOfPaperTest {
    private static final int NONE = SeeSaws.NONE;
    private static final int LEAST = Integer.MIN_VALUE;
    private static final int MOST = Integer.MAX_VALUE;

    private static void due(String call, long got, long want) {
        Due.due(call, got, want);
    }

    // ---- SETTLE, promise 21 ----

    /** "all CLAIMS that are OFF are ON": there are no CLAIMS, none is OFF. */
    private static void settleOfNone() {
        SeeSaws bare = new SeeSaws();
        due("no claims: the one empty row", bare.settle(NONE), 1);
        due("claim 0", bare.settle(0), NONE);
        SeeSaws level = Due.placed(4, 0, 4, 6);
        due("all ON, level", level.settle(NONE), 1);
        due("where they are", level.settle(0) * 10 + level.settle(1), 6);
        SeeSaws tilted = Due.placed(4, 0, 4, 5);
        due("all ON, not level", tilted.settle(NONE), NONE);
        due("no row", tilted.settle(0), NONE);
    }

    /** "each at a PLACE where it is not BARRED": at one alone, at none. */
    private static void settleWhereNotBarred() {
        SeeSaws x = Due.placed(2, 6, 2, 7);
        Due.forced(x, "bars if place > 0");
        due("at 0 alone", x.settle(NONE) * 10 + x.settle(1), 10);
        Due.forced(x, "bars if place = 0");
        due("not at 0", x.settle(NONE), NONE);
        Due.forced(x, "bars if claim = 1");
        due("nowhere", x.settle(NONE), NONE);
        due("nowhere", x.settle(0), NONE);
        due("nowhere", x.settle(1), NONE);
    }

    /** "those that are ON where they are (BARRED or not)". */
    private static void settleKeepsThoseOn() {
        SeeSaws x = Due.placed(2, 6, 2, 7);
        Due.forced(x, "bars if claim = 0");
        due("barred where it is", x.settle(NONE), 1);
        due("6, 0", x.settle(0) * 10 + x.settle(1), 60);
    }

    /** "so that it is LEVEL": SLACK at most, either way. */
    private static void settleWithinSlack() {
        SeeSaws x = Due.plank(2);
        due("slack 0: 3", x.settle(NONE) * 10 + x.settle(0), 13);
        x.terms(3, 1);
        due("slack 1: 3", x.settle(NONE) * 10 + x.settle(0), 13);
        x.terms(3, 2);
        due("slack 2: 2, 3, 4", x.settle(NONE) * 10 + x.settle(0), 32);
        x.terms(3, 5);
        due("slack 5: 1 .. 5 without the ends", x.settle(NONE) * 10 + x.settle(0), 51);
        x.terms(3, 6);
        due("slack 6: all", x.settle(NONE) * 10 + x.settle(0), 70);
    }

    /** "how many there are": all rows of seven CLAIMS; the most that can be. */
    private static void settleOfSeven() {
        SeeSaws x = Due.seven(1, 7);
        Due.forced(x, "counts 0");
        due("7 to the 7th", x.settle(NONE), 823543);
        for (int claim = 0; claim < 7; claim++) {
            due("the first row", x.settle(claim), 0);
        }
        Due.forced(x, "counts 99");
        due("as many as of one each", x.settle(NONE), 60691);
        Due.forced(x, "bars if not place = 3");
        due("one", x.settle(NONE), 1);
        due("in the middle", x.settle(6), 3);
    }

    /** "the first such row": PLACES by CLAIMS, CLAIM 0 first. */
    private static void settleTheFirstRow() {
        SeeSaws x = Due.plank(1, 1);
        due("0, 6", x.settle(0) * 10 + x.settle(1), 6);
        Due.forced(x, "bars if claim = 0 and place = 0");
        due("1, 5", x.settle(0) * 10 + x.settle(1), 15);
        Due.forced(x, "bars if claim = 1 and place > 3");
        due("3, 3", x.settle(0) * 10 + x.settle(1), 33);
    }

    /** "NONE (no such CLAIM; there is no row)". */
    private static void settleOthers() {
        SeeSaws x = Due.seven(1, 3);
        due("claim 6", x.settle(6), 3);
        for (int claim : new int[] {7, -2, LEAST, MOST}) {
            due("settle(" + claim + ")", x.settle(claim), NONE);
        }
    }

    /** Rows are sought on the side where they are: a low and a high CLAIM that may go to the right alone. */
    private static void settleOneSide() {
        SeeSaws high = Due.placed(2, 0, 1, 3, 1, 3, 1, 3, 2, 7);
        Due.forced(high, "bars if place < 3");
        due("claim 4 at 6", high.settle(NONE) * 10 + high.settle(4), 16);
        SeeSaws low = Due.placed(2, 7, 1, 3, 1, 3, 1, 3, 2, 0);
        Due.forced(low, "bars if place < 3");
        due("claim 0 at 6", low.settle(NONE) * 10 + low.settle(0), 16);
        due("least", low.least(NONE) * 10 + low.least(0), 6);
        due("moved", low.moved(NONE) * 100 + low.moved(0) * 10 + low.moved(4), 173);
    }

    /** What was asked before does not matter: moved, settle, least one behind another. */
    private static void rowsOneBehindAnother() {
        SeeSaws two = Due.placed(1, 0, 1, 7);
        due("moved", two.moved(NONE) * 10 + two.moved(0), 13);
        due("settle", two.settle(NONE) * 10 + two.settle(1), 16);
        due("moved", two.moved(NONE) * 10 + two.moved(1), 17);
        due("least", two.least(NONE) * 10 + two.least(1), 6);
        SeeSaws x = Due.placed(1, 0, 1, 0, 1, 0, 1, 0, 1, 0, 1, 0, 1, 0);
        x.terms(3, 1);
        due("settle", x.settle(NONE), NONE);
        Due.forced(x, "bars if place < 3 or place > 4");
        due("21 by 3 or 4 each, but one: five", x.moved(NONE), 5);
        due("settle", x.settle(NONE), NONE);
        Due.forced(x, "bars if not place = 3");
        due("21 by 3 each, but one: seven", x.moved(NONE) * 10 + x.moved(6), 73);
        Due.forced(x, "bars if place < 2 or place > 3");
        due("21 by 3 or 2 each, but one: seven", x.moved(NONE) * 10 + x.moved(0), 72);
        due("least", x.least(NONE), 21);
        for (int claim = 0; claim < 7; claim++) {
            x.put(claim, 3);
        }
        due("moved", x.moved(NONE), 0);
        due("settle", x.settle(NONE), 1);
        x.take(0);
        due("settle", x.settle(NONE), 2);
        due("least", x.least(NONE) * 10 + x.least(0), 3);
        due("moved", x.moved(NONE), 0);
    }

    /** "(On paper, DAY as now:)": by the law at this DAY; nothing is put. */
    private static void settleByTheDay() {
        SeeSaws x = Due.plank(1, 1);
        Due.forced(x, "bars if day < 999 and not place = 3");
        due("DAY 0", x.settle(NONE), 1);
        x.terms(0, 999);
        due("DAY 999", x.settle(NONE), 7);
        due("nothing is put", x.count(1), 0);
    }

    // ---- LEAST, promise 22 ----

    /** "of all such rows, LEVEL or not": none OFF, no CLAIMS. */
    private static void leastOfNone() {
        SeeSaws bare = new SeeSaws();
        due("no claims", bare.least(NONE), 0);
        due("claim 0", bare.least(0), NONE);
        SeeSaws on = Due.seven(30, 0);
        due("all ON", on.least(NONE), 630);
        due("where it is", on.least(6), 0);
        Due.forced(on, "counts 99; bars");
        due("the most that can be", on.least(NONE), 2079);
    }

    /** "as little as can be either way": the first, be it to the left or to the right; SLACK does not matter. */
    private static void leastEitherWay() {
        SeeSaws x = Due.placed(1, 4, 2, 7);
        x.terms(3, 9);
        due("-1 ahead of 1", x.least(NONE) * 10 + x.least(1), 12);
        Due.forced(x, "bars if claim = 1 and place = 2");
        due("1 then", x.least(NONE) * 10 + x.least(1), 13);
        Due.forced(x, "bars if claim = 1 and place < 4");
        due("3 then", x.least(NONE) * 10 + x.least(1), 34);
    }

    /** "NONE (no such CLAIM; there is no row)". */
    private static void leastOthers() {
        SeeSaws x = Due.placed(1, 0, 1, 7);
        for (int claim : new int[] {2, 7, -2, LEAST, MOST}) {
            due("least(" + claim + ")", x.least(claim), NONE);
        }
        Due.forced(x, "bars if claim = 1");
        due("no row", x.least(NONE), NONE);
        due("no row", x.least(0), NONE);
        Due.forced(x, "bars if claim = 1 and place > 0");
        due("one row", x.least(NONE) * 10 + x.least(1), 60);
    }

    // ---- MOVE, promise 23 ----

    /** "how many (claim NONE; LEVEL now: 0)": no CLAIMS, none ON, level. */
    private static void movedNone() {
        due("no claims", new SeeSaws().moved(NONE), 0);
        due("claim 0", new SeeSaws().moved(0), NONE);
        SeeSaws off = Due.plank(5, 6);
        due("none ON", off.moved(NONE), 0);
        due("7: OFF", off.moved(0) * 10 + off.moved(1), 77);
        SeeSaws x = Due.placed(3, 2);
        x.terms(3, 3);
        due("level within slack", x.moved(NONE) * 10 + x.moved(0), 2);
        x.terms(3, 2);
        due("just beyond it", x.moved(NONE) * 10 + x.moved(0), 13);
    }

    /** "the fewest CLAIMS that are ON": two where one does not do; all seven. */
    private static void movedTheFewest() {
        SeeSaws x = Due.placed(1, 0, 1, 0, 1, 6);
        due("one", x.moved(NONE), 1);
        due("to the middle", x.moved(0) * 100 + x.moved(1) * 10 + x.moved(2), 36);
        SeeSaws y = Due.seven(1, 0);
        due("four", y.moved(NONE), 4);
        Due.forced(y, "bars if not place = 3");
        due("seven", y.moved(NONE), 7);
        Due.forced(y, "bars");
        due("it can't be", y.moved(NONE), NONE);
        due("it can't be", y.moved(6), NONE);
    }

    /** "all others where they are": BARRED or not; those that are OFF stay OFF. */
    private static void movedOthersStay() {
        SeeSaws x = Due.placed(2, 0, 3, 6, 2, 7);
        Due.forced(x, "bars if claim = 1 or place = 6");
        due("claim 1 stays, though barred; no place for 0 is far enough", x.moved(NONE), NONE);
        Due.forced(x, "bars if claim = 0");
        due("claim 1 to 5", x.moved(NONE) * 1000 + x.moved(0) * 100 + x.moved(1) * 10 + x.moved(2), 1057);
    }

    /** "the first such row (7: OFF)". */
    private static void movedTheFirstRow() {
        SeeSaws x = Due.placed(1, 4, 1, 4);
        due("0 to 2", x.moved(NONE) * 100 + x.moved(0) * 10 + x.moved(1), 124);
        SeeSaws y = Due.placed(1, 2, 1, 2);
        due("0 stays, as 2 is ahead of 4", y.moved(NONE) * 100 + y.moved(0) * 10 + y.moved(1), 124);
    }

    /** "NONE (no such CLAIM; it can't be)". */
    private static void movedOthers() {
        SeeSaws x = Due.seven(1, 3);
        due("claim 6", x.moved(6), 3);
        for (int claim : new int[] {7, -2, LEAST, MOST}) {
            due("moved(" + claim + ")", x.moved(claim), NONE);
        }
    }

    // ---- ALONE, promise 24 ----

    /** "CLAIMS that are OFF any one of which": no CLAIMS, none OFF, all seven. */
    private static void aloneOfNoneAndOfSeven() {
        due("no claims", new SeeSaws().alone(), 0);
        due("none OFF", Due.seven(1, 3).alone(), 0);
        due("all seven", Due.seven(30, 7).alone(), 127);
        SeeSaws x = Due.placed(1, 0, 1, 6, 5, 7);
        due("level now: in the middle", x.alone(), 4);
        due("at 0 alone", Due.placed(1, 6, 1, 7).alone(), 2);
        due("at 6 alone", Due.placed(1, 0, 1, 7).alone(), 2);
    }

    /** "at some PLACE where it is not BARRED, makes it LEVEL": by SLACK at most. */
    private static void aloneWithinSlack() {
        SeeSaws x = Due.placed(5, 0, 4, 7, 2, 7);
        due("15 by 12, 6", x.alone(), 0);
        x.terms(3, 2);
        due("slack 2", x.alone(), 0);
        x.terms(3, 3);
        due("slack 3", x.alone(), 2);
        x.terms(3, 8);
        due("slack 8", x.alone(), 2);
        x.terms(3, 9);
        due("slack 9", x.alone(), 6);
        Due.forced(x, "bars if place = 6");
        due("15 by 8, 4", x.alone(), 2);
        Due.forced(x, "bars");
        due("barred", x.alone(), 0);
    }

    // ---- EXCHANGED, promise 25 ----

    /** "of all twos of CLAIMS that are ON": none, one, both at one PLACE. */
    private static void exchangedOfNone() {
        due("no claims", new SeeSaws().exchanged(0), NONE);
        due("one", Due.placed(5, 0).exchanged(0), NONE);
        due("one ON", Due.placed(5, 0, 1, 7).exchanged(1), NONE);
        due("at one place", Due.placed(5, 0, 1, 0).exchanged(0), NONE);
        due("as heavy", Due.placed(5, 0, 5, 1).exchanged(0), NONE);
    }

    /** "less than now": by one; not if it is as much the other way. */
    private static void exchangedByOne() {
        SeeSaws x = Due.placed(2, 2, 1, 3);
        due("2 to 1", x.exchanged(0) * 10 + x.exchanged(1), 11);
        SeeSaws y = Due.placed(2, 2, 1, 4);
        due("-1 to 1 is not less", y.exchanged(0), NONE);
        due("-1 to 1 is not less", y.exchanged(1), NONE);
        SeeSaws z = Due.placed(1, 2, 1, 4);
        due("even already", z.exchanged(0), NONE);
    }

    /** "as ten times the lower and the higher one, the lowest": 0 and 5; 5 and 6; 0 and 1. */
    private static void exchangedTheLowest() {
        SeeSaws x = Due.placed(1, 3, 1, 3, 1, 3, 1, 3, 1, 3, 5, 2, 4, 3);
        due("0 and 5", x.exchanged(0) * 10 + x.exchanged(1), 51);
        Due.forced(x, "bars if claim < 5");
        due("5 and 6 alone", x.exchanged(0) * 10 + x.exchanged(1), 564);
        SeeSaws y = Due.placed(5, 2, 4, 3, 4, 3);
        due("of two alike the lower", y.exchanged(0) * 10 + y.exchanged(1), 14);
    }

    /** "that which ... makes TILT as little as can be": not the first that makes it less. */
    private static void exchangedTheLeast() {
        SeeSaws x = Due.placed(5, 2, 4, 3, 1, 3);
        due("0 and 2", x.exchanged(0) * 10 + x.exchanged(1), 21);
        SeeSaws y = Due.placed(3, 2, 1, 4, 2, 3, 1, 3);
        due("-2 to 2 is not less; 0 and 3", y.exchanged(0) * 10 + y.exchanged(1), 30);
    }

    /** "NONE (none is less)"; no such what. */
    private static void exchangedOthers() {
        SeeSaws x = Due.placed(5, 0, 2, 5);
        due("what 0", x.exchanged(0), 1);
        for (int what : new int[] {-1, 2, LEAST, MOST}) {
            due("exchanged(" + what + ")", x.exchanged(what), NONE);
        }
    }

    // ---- SHARES, promise 26 ----

    /** "NONE (no CLAIMS)"; one CLAIM: the other share is empty. */
    private static void sharesOfNoneAndOfOne() {
        for (int what = 0; what < 3; what++) {
            due("no claims", new SeeSaws().shares(what), NONE);
        }
        SeeSaws x = Due.plank(30);
        due("one claim", x.shares(0) * 100 + x.shares(1) * 10 + x.shares(2), 3011);
    }

    /** "twos of shares, whichever is named first"; "the lowest share, as bits, that has CLAIM 0". Seven CLAIMS. */
    private static void sharesOfSeven() {
        SeeSaws x = Due.seven(1, 7);
        due("four and three", x.shares(0), 1);
        due("0, 1, 2", x.shares(1), 7);
        due("35 ways", x.shares(2), 35);
        SeeSaws y = Due.plank(30, 1, 1, 1, 1, 1, 1);
        due("30 by 6", y.shares(0) * 100 + y.shares(1) * 10 + y.shares(2), 2411);
        SeeSaws z = Due.plank(1, 1, 1, 1, 1, 1, 6);
        due("6 by 6", z.shares(0) * 1000 + z.shares(1) * 10 + z.shares(2), 631);
        SeeSaws all = Due.plank(1, 1, 1, 1, 1, 1, 30);
        due("all but the last", all.shares(0) * 1000 + all.shares(1) * 10 + all.shares(2), 24631);
    }

    /** No such what. */
    private static void sharesOthers() {
        SeeSaws x = Due.plank(1);
        for (int what : new int[] {-1, 3, LEAST, MOST}) {
            due("shares(" + what + ")", x.shares(what), NONE);
        }
    }

    // ---- OFF one by one, promise 27 ----

    /** "how many orders (i NONE; there is none: 0; none is ON: 1)". */
    private static void offOfNone() {
        due("no claims", new SeeSaws().off(NONE), 1);
        due("its first", new SeeSaws().off(0), NONE);
        SeeSaws off = Due.plank(5, 5);
        due("none ON", off.off(NONE), 1);
        due("its first", off.off(0), NONE);
        SeeSaws x = Due.placed(5, 2, 5, 4);
        due("none", x.off(NONE), 0);
        due("its first", x.off(0), NONE);
        due("its second", x.off(1), NONE);
    }

    /** "so that it is LEVEL behind each": not ahead of the first; SLACK at most. */
    private static void offWithinSlack() {
        SeeSaws one = Due.placed(30, 0);
        due("level behind the last", one.off(NONE) * 10 + one.off(0), 10);
        SeeSaws x = Due.placed(5, 2, 5, 4);
        x.terms(3, 4);
        due("slack 4", x.off(NONE), 0);
        x.terms(3, 5);
        due("slack 5", x.off(NONE), 2);
        due("0, 1", x.off(0) * 10 + x.off(1), 1);
    }

    /** "the i-th CLAIM of the first. NONE (others)." */
    private static void offOthers() {
        SeeSaws x = Due.seven(1, 3);
        due("7!", x.off(NONE), 5040);
        for (int i = 0; i < 7; i++) {
            due("off(" + i + ")", x.off(i), i);
        }
        for (int i : new int[] {7, -2, LEAST, MOST}) {
            due("off(" + i + ")", x.off(i), NONE);
        }
        SeeSaws two = Due.placed(1, 7, 1, 3, 1, 7, 1, 3);
        due("two that are ON", two.off(NONE) * 100 + two.off(0) * 10 + two.off(1), 213);
        due("there are two alone", two.off(2), NONE);
    }

    // ---- By TURNS, promise 28 ----

    /** "who can't loses": none ON; none that can be. */
    private static void byTurnsOfNone() {
        due("no claims", new SeeSaws().byTurns(0), 0);
        due("no claims", new SeeSaws().byTurns(1), NONE);
        SeeSaws x = Due.placed(5, 2, 5, 4);
        due("neither can be taken", x.byTurns(0), 0);
        due("neither can be taken", x.byTurns(1), NONE);
        x.terms(3, 5);
        due("two that can", x.byTurns(0), 0);
    }

    /** "whether who begins can win; the lowest CLAIM by which". One; three; seven; six. */
    private static void byTurnsOfSome() {
        SeeSaws one = Due.placed(30, 0);
        due("one", one.byTurns(0) * 10 + one.byTurns(1), 10);
        SeeSaws last = Due.placed(1, 7, 1, 7, 1, 7, 1, 7, 1, 7, 1, 7, 30, 0);
        due("the last alone", last.byTurns(0) * 10 + last.byTurns(1), 16);
        SeeSaws seven = Due.seven(1, 3);
        due("seven", seven.byTurns(0) * 10 + seven.byTurns(1), 10);
        seven.take(0);
        due("six", seven.byTurns(0), 0);
        due("six", seven.byTurns(1), NONE);
        SeeSaws x = Due.placed(1, 3, 1, 2, 1, 4);
        due("the middle one can be taken, and then none", x.byTurns(0) * 10 + x.byTurns(1), 10);
    }

    /** What was asked before does not matter: off and byTurns one behind another. */
    private static void offAndByTurns() {
        SeeSaws x = Due.placed(30, 0);
        due("off", x.off(NONE), 1);
        due("byTurns", x.byTurns(0) * 10 + x.byTurns(1), 10);
        due("off", x.off(NONE) * 10 + x.off(0), 10);
        SeeSaws bare = new SeeSaws();
        due("off", bare.off(NONE), 1);
        due("byTurns", bare.byTurns(0), 0);
        due("off", bare.off(NONE), 1);
    }

    /** "NONE (others; who begins does not win)". */
    private static void byTurnsOthers() {
        SeeSaws x = Due.placed(30, 0);
        for (int what : new int[] {-1, 2, LEAST, MOST}) {
            due("byTurns(" + what + ")", x.byTurns(what), NONE);
        }
    }

    // ---- WEIGHED, promises 29 to 32 ----

    /** "-1 (CLAIMS as bits 0 .. 127, one on both sides, what came 0 .. 2)". */
    private static void weighedNumbers() {
        SeeSaws x = Due.seven(1, 7);
        for (int bits : new int[] {-1, 128, LEAST, MOST}) {
            due("left " + bits, x.weighed(bits, 0, 0), -1);
            due("right " + bits, x.weighed(0, bits, 0), -1);
        }
        for (int came : new int[] {-1, 3, LEAST, MOST}) {
            due("came " + came, x.weighed(1, 2, came), -1);
        }
        due("one on both sides", x.weighed(65, 66, 0) + x.weighed(64, 127, 0), -1 + -1);
        due("none was weighed", x.count(3), 0);
        due("all to the left", x.weighed(127, 0, 1), 1);
        due("all to the right", x.weighed(0, 127, 2), 2);
        due("none", x.weighed(0, 0, 0), 3);
    }

    /** "-2 one is not there": of none, of six. */
    private static void weighedOneNotThere() {
        SeeSaws bare = new SeeSaws();
        due("none of none", bare.weighed(0, 0, 0), 1);
        due("claim 0 of none", bare.weighed(1, 0, 0), -2);
        SeeSaws six = Due.plank(1, 1, 1, 1, 1, 1);
        due("claim 5", six.weighed(32, 0, 1), 1);
        due("claim 6 to the left", six.weighed(64, 0, 1), -2);
        due("claim 6 to the right", six.weighed(0, 64, 1), -2);
        due("with others", six.weighed(3, 127 - 3, 1), -2);
    }

    /** "WEIGHED, 6 at most": "-5"; two at once: the first. */
    private static void weighedSix() {
        SeeSaws x = Due.plank(1, 1);
        for (int n = 1; n <= 6; n++) {
            due("weighed " + n, x.weighed(1, 2, 0), n);
        }
        due("a seventh", x.weighed(1, 2, 0), -5);
        due("-2 ahead of -5", x.weighed(1, 4, 0), -2);
        due("-1 ahead of -5", x.weighed(1, 1, 0), -1);
        due("-1 ahead of -2 and -5", x.weighed(4, 4, 0), -1);
        due("-1 ahead of -2", x.weighed(4, 0, 3), -1);
        due("six", x.count(3), 6);
        due("forget", x.forget(), 6);
        due("one again", x.weighed(1, 2, 0), 1);
    }

    /** The sixth counts as the first does. */
    private static void theSixthCounts() {
        SeeSaws x = Due.plank(1, 1);
        for (int n = 0; n < 5; n++) {
            x.weighed(1, 2, 0);
        }
        due("none is false", x.canBe(), 1 << 14);
        x.weighed(1, 2, 1);
        due("it can't be", x.canBe(), 0);
    }

    /** Promise 29: "It leaves what can be undone." Promise 30: "WEIGHED is nothing then: how often there was." */
    private static void weighedLeavesUndo() {
        SeeSaws x = Due.placed(1, 0, 1, 6);
        due("two to undo", x.count(5), 2);
        x.weighed(1, 2, 1);
        due("two still", x.count(5), 2);
        due("undo leaves what was weighed", x.undo() + x.count(3), 1);
        due("forget", x.forget(), 1);
        due("nothing to forget", x.forget(), 0);
        due("one to undo still", x.count(5), 1);
        due("all can be again", x.canBe(), (1 << 14) + 15);
    }

    /** "IT CAN BE: that none is FALSE (bit 14), ... CLAIM c is one more (bit 2 times c), one less (the bit behind)". */
    private static void canBeOfNoneAndOfSeven() {
        due("no claims", new SeeSaws().canBe(), 1 << 14);
        due("seven, nothing weighed", Due.seven(1, 7).canBe(), 32767);
        SeeSaws x = Due.seven(5, 7);
        x.weighed(64, 1, 1);
        due("6 one more, 0 one less", x.canBe(), (1 << 12) + 2);
        x.weighed(64, 2, 1);
        due("6 one more", x.canBe(), 1 << 12);
        x.forget();
        x.weighed(64, 1, 2);
        x.weighed(64, 2, 2);
        due("6 one less", x.canBe(), 1 << 13);
        x.weighed(64, 4, 0);
        due("it can't be", x.canBe(), 0);
    }

    /** "which was one more or one less": of HEAVY 30 and of HEAVY 1, too. */
    private static void canBeBeyondHeavy() {
        SeeSaws x = Due.plank(30, 30);
        x.weighed(1, 2, 1);
        due("0 is 31 or 1 is 29", x.canBe(), 1 + 8);
        SeeSaws y = Due.plank(1);
        y.weighed(1, 0, 0);
        due("0 is 0", y.canBe(), 2);
        y.forget();
        y.weighed(0, 0, 0);
        due("none against none tells nothing", y.canBe(), (1 << 14) + 3);
        y.weighed(0, 0, 1);
        due("it can't come so", y.canBe(), 0);
    }

    /** "all were HEAVY as they are now": by one, by two, as padded since. */
    private static void canBeByWhatIsNow() {
        SeeSaws x = Due.plank(4, 5);
        x.weighed(1, 2, 0);
        due("0 more or 1 less", x.canBe(), 1 + 8);
        x.pad(1, 6);
        due("by two: it can't be", x.canBe(), 0);
        x.pad(1, 4);
        due("alike: none", x.canBe(), 1 << 14);
        x.claim(9, 0);
        due("or one that was not weighed", x.canBe(), (1 << 14) + 16 + 32);
    }

    /** "To WEIGH next ... (none may be)": no CLAIMS; nothing is left to find out. */
    private static void weighNone() {
        SeeSaws bare = new SeeSaws();
        due("no claims", bare.weigh(0) * 100 + bare.weigh(1) * 10 + bare.weigh(2), 1);
        SeeSaws x = Due.plank(1, 1);
        x.weighed(1, 2, 0);
        due("none is false: none against none", x.weigh(0) * 100 + x.weigh(1) * 10 + x.weigh(2), 1);
        SeeSaws far = Due.plank(1, 30);
        due("none against 0, by which one of five comes otherwise",
                far.weigh(0) * 100 + far.weigh(1) * 10 + far.weigh(2), 14);
    }

    /** "of all that it can be the most of which alike comes": by one more, by one less, alike ahead. */
    private static void weighByOne() {
        SeeSaws x = Due.plank(4, 4, 4);
        x.weighed(1, 2, 1);
        due("0 more or 1 less", x.canBe(), 1 + 8);
        due("none against 0: 4 or 5 come alike; 0 against 2 tells them apart",
                x.weigh(0) * 100 + x.weigh(1) * 10 + x.weigh(2), 141);
        SeeSaws y = Due.plank(4, 5);
        // Of five: 4 against 5 comes even by 0 more and by 1 less, else the right ones are more.
        due("0 against 1", y.weigh(0) * 100 + y.weigh(1) * 10 + y.weigh(2), 123);
        y.weighed(1, 2, 0);
        due("0 more or 1 less: no weighing tells them apart", y.canBe(), 1 + 8);
        due("none against none", y.weigh(0) * 100 + y.weigh(1) * 10 + y.weigh(2), 2);
        SeeSaws z = Due.plank(5, 4);
        due("0 against 1, the other way", z.weigh(0) * 100 + z.weigh(1) * 10 + z.weigh(2), 123);
        SeeSaws last = Due.seven(4, 7);
        last.weighed(64, 1, 1);
        last.weighed(64, 2, 1);
        due("6 more alone: none against none", last.weigh(0) * 100 + last.weigh(1) * 10 + last.weigh(2), 1);
    }

    /** "NONE (it can't be at all)"; no such what. */
    private static void weighOthers() {
        SeeSaws x = Due.plank(1, 1);
        for (int what : new int[] {-1, 3, LEAST, MOST}) {
            due("weigh(" + what + ")", x.weigh(what), NONE);
        }
        x.weighed(1, 2, 0);
        x.weighed(1, 2, 1);
        for (int what : new int[] {0, 1, 2, 3, -1}) {
            due("it can't be: " + what, x.weigh(what), NONE);
        }
    }

    /** "the lowest left, then the lowest right, as bits". */
    private static void weighTheLowest() {
        SeeSaws x = Due.seven(30, 7);
        due("three against three: 6, 6, 3", x.weigh(2), 6);
        due("the lowest left", x.weigh(0), 1 + 2 + 4);
        due("the lowest right", x.weigh(1), 8 + 16 + 32);
    }

    // ---- FEW, promise 33 ----

    /** "k 1 .. 20, n 0 .. 99. NONE." */
    private static void fewWithin() {
        SeeSaws x = new SeeSaws();
        for (int k : new int[] {0, 21, -1, LEAST, MOST}) {
            due("few(" + k + ", 0)", x.few(k, 0), NONE);
        }
        for (int n : new int[] {-1, 100, LEAST, MOST}) {
            due("few(1, " + n + ")", x.few(1, n), NONE);
        }
        due("both", x.few(0, 100), NONE);
        due("of no birds fewer than 1", x.few(1, 0), 1000000000000L);
        due("of no birds fewer than 20", x.few(20, 0), 1000000000000L);
        due("of one bird", x.few(1, 1), 900000000000L);
        due("of one bird fewer than two", x.few(2, 1), 1000000000000L);
    }

    /** "each of which alights in BIRDS of ten": BIRDS 0 and 10; as many as there are, and one more. */
    private static void fewOfNoneAndAll() {
        SeeSaws x = new SeeSaws();
        x.terms(1, 0);
        due("none alights", x.few(1, 99), 1000000000000L);
        due("none alights", x.few(20, 99), 1000000000000L);
        x.terms(1, 10);
        due("all alight: fewer than 1 of 1", x.few(1, 1), 0);
        due("fewer than 2 of 1", x.few(2, 1), 1000000000000L);
        due("fewer than 20 of 19", x.few(20, 19), 1000000000000L);
        due("fewer than 20 of 20", x.few(20, 20), 0);
        due("fewer than 20 of 99", x.few(20, 99), 0);
    }

    /** "both cut": by hand, birds of nine of ten. */
    private static void fewIsCut() {
        SeeSaws x = new SeeSaws();
        x.terms(1, 9);
        due("12 birds, none", x.few(1, 12), 1);
        due("13 birds, none: cut", x.few(1, 13), 0);
        due("99 birds, none", x.few(1, 99), 0);
        due("12 birds, one at most", x.few(2, 12), 1 + 108);
        // One at most of 13: 108 by ten is 10, and nine tenths of the 1 that none did are cut to 0.
        due("13 birds, one at most", x.few(2, 13), 10);
        due("14 birds, one at most", x.few(2, 14), 1);
        due("15 birds, one at most", x.few(2, 15), 0);
    }

    // ---- COMPARED, promise 34 ----

    /** "by a LAW in place of that in FORCE (NONE: none)"; "NONE (no such LAW)". */
    private static void compareOthers() {
        SeeSaws x = Due.placed(5, 0);
        due("none of none", x.compare(NONE), 15);
        due("law 0 of none", x.compare(0), NONE);
        for (int law = 0; law < 6; law++) {
            Due.law(x, "counts " + law * 20);
        }
        x.force(3);
        due("none", x.compare(NONE), 15);
        due("law 0", x.compare(0), 0);
        due("law 5: 99", x.compare(5), 297);
        due("that in FORCE", x.compare(3), 180);
        for (int law : new int[] {6, -2, LEAST, MOST}) {
            due("compare(" + law + ")", x.compare(law), NONE);
        }
        due("in FORCE still", x.count(12), 3);
        due("none ON", Due.plank(5).compare(NONE), 0);
    }

    // ---- DAYS, promises 35 and 36 ----

    /** "n 1 .. 60", "the SEED (0 .. 1,000,000)": "-1; -3 there are no CLAIMS". */
    private static void daysWithin() {
        SeeSaws x = Due.plank(1);
        for (int seed : new int[] {-1, 1000001, LEAST, MOST}) {
            due("seed " + seed, x.days(seed, 1), -1);
        }
        for (int n : new int[] {0, 61, -1, LEAST, MOST}) {
            due("n " + n, x.days(0, n), -1);
        }
        due("none yet", x.drawn(0, 0), NONE);
        SeeSaws bare = new SeeSaws();
        due("no claims", bare.days(0, 1), -3);
        due("-1 ahead of -3", bare.days(-1, 1), -1);
        due("-1 ahead of -3", bare.days(0, 61), -1);
    }

    /**
     * "s becomes (s times 1103 and 12345) modulo 1,000,003": from the highest SEED 1,000,000 it is 9,036 (three steps
     * below the round: 12,345 less 3 times 1,103), then 979,026, then 874,786: of two CLAIMS 0, of seven PLACES 6,
     * of three 1, which is to put.
     */
    private static void daysOfTheHighestSeed() {
        SeeSaws x = Due.plank(7, 5);
        due("one day", x.days(1000000, 1), 21);
        due("where it is", x.drawn(0, 1), 6);
        due("the other one", x.drawn(1, 1), NONE);
    }

    /** "n 1 .. 60": by the SEED 0 of one CLAIM: put at 3, at 4, at 4 (it is there), taken. */
    private static void daysOneByOne() {
        SeeSaws x = Due.plank(5);
        int[] place = {3, 4, 4, NONE};
        for (int n = 1; n <= 4; n++) {
            due("days(0, " + n + ")", x.days(0, n), place[n - 1] == 4 ? 5 : 0);
            due("place behind " + n, x.drawn(0, 1), place[n - 1]);
        }
    }

    /** "Each time (at DAY 999 it ends)": ahead of the DRAWS; one DAY ahead of it; just in time. */
    private static void daysEndAt999() {
        SeeSaws x = Due.placed(30, 0);
        Due.forced(x, "sheds 1; bars");
        x.terms(0, 999);
        due("no day at all", x.days(0, 60), 90);
        due("as it is", x.drawn(0, 0) * 10 + x.drawn(0, 1), 300);
        due("not refused", x.status(), 0);
        x.terms(0, 998);
        due("one day", x.days(0, 60), 87);
        x.terms(0, 997);
        due("two days", x.days(0, 60), 84);
        due("two days", x.days(0, 2), 84);
        due("one day", x.days(0, 1), 87);
        due("DAY stays", x.count(13), 997);
    }

    /** "(at DAY 999 it ends)": no DRAW moves a CLAIM there, though it could be put. */
    private static void noDrawAt999() {
        SeeSaws x = Due.plank(3);
        x.terms(0, 999);
        for (int seed = 0; seed < 20; seed++) {
            due("seed " + seed, x.days(seed, 60), 0);
            due("OFF", x.drawn(0, 1), NONE);
        }
    }

    /** "each if it can be": where it is, BARRED, OFF already; "then the DAY passes" all the same. */
    private static void daysOfWhatCannotBe() {
        SeeSaws x = Due.placed(30, 3);
        // By the SEED 0 the DRAWS are 12345, 628841, 621889: CLAIM 0, PLACE 3, put.
        Due.forced(x, "sheds 1");
        due("it is there already", x.days(0, 1), 0);
        due("the DAY passed", x.drawn(0, 0) * 10 + x.drawn(0, 1), 293);
        x.put(0, 0);
        Due.forced(x, "sheds 1; bars if place = 3");
        due("barred", x.days(0, 1), 87);
        due("the DAY passed", x.drawn(0, 0) * 10 + x.drawn(0, 1), 290);
        SeeSaws off = Due.plank(30);
        for (int seed = 0; seed < 40; seed++) {
            long s = seed;
            long place = 0;
            for (int i = 0; i < 3; i++) {
                place = i == 2 ? s : 0;
                s = (s * 1103 + 12345) % 1000003;
            }
            due("seed " + seed, off.days(seed, 1), s % 3 == 2 ? 0 : 30 * Math.abs(place % 7 - 3));
            due("place by seed " + seed, off.drawn(0, 1), s % 3 == 2 ? NONE : place % 7);
        }
    }

    /** "on paper": nothing changes but the latest DAYS; 60 of them. */
    private static void daysOnPaper() {
        SeeSaws x = Due.placed(30, 0, 30, 6);
        Due.forced(x, "sheds 9");
        x.days(12345, 60);
        due("all is shed on paper", x.drawn(0, 0) * 10 + x.drawn(1, 0), 11);
        due("nothing is shed", x.of(0, 0) + x.of(1, 0), 60);
        due("no DAY passed", x.count(13), 0);
        due("two to undo", x.count(5), 2);
        due("where they were", x.of(0, 2) * 10 + x.of(1, 2), 6);
    }

    /** Promise 36: "the PLACE (1; NONE). NONE." No DAYS yet; no such CLAIM; no such what. */
    private static void drawnOthers() {
        SeeSaws x = Due.seven(5, 0);
        for (int what = 0; what < 2; what++) {
            due("no DAYS yet", x.drawn(0, what), NONE);
        }
        x.days(0, 1);
        due("claim 6", x.drawn(6, 0) * 10 + x.drawn(6, 1), 50);
        for (int claim : new int[] {7, -1, LEAST, MOST}) {
            due("claim " + claim, x.drawn(claim, 0), NONE);
            due("claim " + claim, x.drawn(claim, 1), NONE);
        }
        for (int what : new int[] {-1, 2, LEAST, MOST}) {
            due("what " + what, x.drawn(0, what), NONE);
        }
    }

    /** "kept as the latest": a refused days() leaves them, so does all that is done since. */
    private static void drawnOfTheLatest() {
        SeeSaws x = Due.placed(5, 0);
        Due.forced(x, "bars; sheds 1 if day = 0");
        x.days(1, 1);
        int heavy = x.drawn(0, 0);
        x.days(-1, 1);
        x.days(0, 0);
        x.pad(0, 20);
        x.take(0);
        x.claim(9, 0);
        due("as it was drawn", x.drawn(0, 0), heavy);
        due("a claim that came since", x.drawn(1, 0), NONE);
        x.days(1, 1);
        due("the latest now", x.drawn(0, 0) * 10 + x.drawn(1, 0), 209);
    }

    public static void main(String[] args) throws ReflectiveOperationException {
        Due.runAll(EdgesOfPaperTest.class);
    }
}
