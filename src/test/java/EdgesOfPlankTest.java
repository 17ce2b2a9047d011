/**
 * Boundary cases of Terms I and III (what is done) and of promises 1 to 6 and 15 to 20; a test for each sentence
 * that names one, with the sentence above it. What a refused call leaves is in RefusedTest.
 */
public final class EdgesOfPlankTest {
    private static final int NONE = SeeSaws.NONE;
    private static final int LEAST = Integer.MIN_VALUE;
    private static final int MOST = Integer.MAX_VALUE;

    private static void due(String call, long got, long want) {
        Due.due(call, got, want);
    }

    // ---- Terms I ----

    /** "PLACES 0 .. 6". */
    private static void placesAre0To6() {
        SeeSaws x = Due.plank(1);
        due("asks at 0", x.asks(0, 0, 1), 0);
        due("asks at 6", x.asks(0, 6, 1), 0);
        due("put at 0", x.put(0, 0), 3);
        due("put at 6", x.put(0, 6), 3);
        for (int place : new int[] {-1, 7, LEAST, MOST}) {
            due("asks at " + place, x.asks(0, place, 1), NONE);
            due("put at " + place, x.put(0, place), -1);
            due("it stays", x.of(0, 2), 6);
        }
    }

    /** "the ARM of each its number less 3 (-3 .. 3)". */
    private static void armsAreMinus3To3() {
        SeeSaws x = Due.plank(1);
        int[] side = {1, 1, 1, 0, 2, 2, 2};
        for (int place = 0; place < 7; place++) {
            due("put at " + place, x.put(0, place), Math.abs(place - 3));
            due("side " + place, x.tilt(1), side[place]);
        }
        Due.forced(x, "counts arm + 3");
        for (int place = 0; place < 7; place++) {
            due("arm and 3 at " + place, x.asks(0, place, 0), place);
        }
    }

    /** "CLAIMS 0 .. 6 (7 at most)". */
    private static void claimsAre0To6() {
        SeeSaws x = new SeeSaws();
        due("none", x.count(0), 0);
        due("claim 0 is not there", x.of(0, 0), NONE);
        for (int n = 0; n < 7; n++) {
            due("claim " + n, x.claim(1 + n, 0), n);
            due("the next is not there", x.of(n + 1, 0), NONE);
        }
        due("an eighth", x.claim(1, 0), -5);
        due("seven", x.count(0), 7);
        due("claim 6", x.of(6, 0), 7);
        due("put 6", x.put(6, 4), 7);
        due("put 7", x.put(7, 4), -2);
        due("take 7", x.take(7), -2);
        due("pad 7", x.pad(7, 4), -2);
    }

    /** "HEAVY 1 .. 30". */
    private static void heavyIs1To30() {
        SeeSaws x = new SeeSaws();
        for (int heavy : new int[] {0, 31, -1, LEAST, MOST}) {
            due("claim heavy " + heavy, x.claim(heavy, 0), -1);
        }
        due("none came", x.count(0), 0);
        due("heavy 1", x.claim(1, 0), 0);
        due("heavy 30", x.claim(30, 0), 1);
        due("1 and 30", x.of(0, 0) * 100 + x.of(1, 0), 130);
        for (int heavy : new int[] {0, 31, -1, LEAST, MOST}) {
            due("pad to " + heavy, x.pad(0, heavy), -1);
        }
        due("pad to 30", x.pad(0, 30), 1);
        due("pad to 1", x.pad(1, 1), 30);
    }

    /** "a KIND 0 .. 3". */
    private static void kindIs0To3() {
        SeeSaws x = new SeeSaws();
        for (int kind : new int[] {-1, 4, LEAST, MOST}) {
            due("claim of kind " + kind, x.claim(1, kind), -1);
        }
        due("kind 0", x.claim(1, 0), 0);
        due("kind 3", x.claim(1, 3), 1);
        due("0 and 3", x.of(0, 1) * 10 + x.of(1, 1), 3);
    }

    /** "ON at a PLACE or OFF (at first)". */
    private static void offAtFirst() {
        SeeSaws x = Due.plank(1);
        due("PLACE", x.of(0, 2), NONE);
        due("ON", x.count(1), 0);
        due("it can't be taken", x.take(0), -3);
        Due.tape(x, "\1\0");
        x.row();
        due("by a ROW, too", x.of(1, 2), NONE);
    }

    /** "TILT: what all CLAIMS that are ON COUNT as, each times its ARM, together." None; all, at either end. */
    private static void tiltOfNoneAndOfAll() {
        due("no claims", new SeeSaws().tilt(0), 0);
        due("none ON", Due.seven(30, 7).tilt(0), 0);
        SeeSaws left = Due.seven(30, 0);
        due("all to the left", left.tilt(0) * 10 + left.tilt(1), 6301);
        SeeSaws right = Due.seven(30, 6);
        due("all to the right", right.tilt(0) * 10 + right.tilt(1), 6302);
        Due.forced(left, "counts 99");
        due("by the highest counts", left.tilt(0), 2079);
        Due.forced(left, "counts 0");
        due("by the lowest counts", left.tilt(0) * 10 + left.tilt(1), 0);
        due("all in the middle", Due.seven(30, 3).tilt(0), 0);
    }

    /** "It is LEVEL, if TILT is SLACK at most either way." SLACK 0 .. 9, just within and just beyond. */
    private static void levelWithinSlackAlone() {
        for (int slack = 0; slack <= 9; slack++) {
            SeeSaws x = Due.plank(Math.max(1, slack), slack + 1);
            x.terms(3, slack);
            x.put(0, slack == 0 ? 3 : 4);
            due("right by " + slack, x.tilt(2), 1);
            x.put(0, slack == 0 ? 3 : 2);
            due("left by " + slack, x.tilt(2), 1);
            x.take(0);
            x.put(1, 4);
            due("right by " + (slack + 1), x.tilt(2), 0);
            x.put(1, 2);
            due("left by " + (slack + 1), x.tilt(2), 0);
        }
    }

    /** "TERMS: 0 DAY 0 .. 999 (0 at first), 1 BIRDS 0 .. 10 (1), 2 MOOD 0 .. 9 (0), 3 SLACK 0 .. 9 (0)." */
    private static void termsHaveTheirRanges() {
        int[] first = {0, 1, 0, 0};
        int[] most = {999, 10, 9, 9};
        for (int what = 0; what < 4; what++) {
            SeeSaws x = new SeeSaws();
            due("at first " + what, x.count(13 + what), first[what]);
            for (int value : new int[] {-1, most[what] + 1, LEAST, MOST}) {
                due("term " + what + " to " + value, x.terms(what, value), -1);
            }
            due("to 0: " + what, x.terms(what, 0), first[what]);
            due("to the most: " + what, x.terms(what, most[what]), 0);
            due("it is so: " + what, x.count(13 + what), most[what]);
            due("to the same: " + what, x.terms(what, most[what]), most[what]);
        }
    }

    // ---- Terms III ----

    /** "To PUT a CLAIM at a PLACE where it is not". */
    private static void putWhereItIs() {
        for (int place = 0; place < 7; place++) {
            SeeSaws x = Due.plank(2);
            x.put(0, place);
            due("again at " + place, x.put(0, place), -3);
            due("elsewhere", x.put(0, 6 - place == place ? 0 : 6 - place), place == 3 ? 6 : 2 * Math.abs(place - 3));
        }
    }

    /** "and is not BARRED: it is ON there (wherever it was)". */
    private static void putWhereBarred() {
        SeeSaws x = Due.plank(2);
        Due.forced(x, "bars if place = 0 or place = 6");
        due("OFF, to a barred one", x.put(0, 0), -3);
        due("OFF, beside it", x.put(0, 1), 4);
        due("ON, to a barred one", x.put(0, 6), -3);
        due("it stays", x.of(0, 2), 1);
        x.force(NONE);
        x.put(0, 6);
        x.force(0);
        due("away from a barred one", x.put(0, 5), 4);
        due("and not back", x.put(0, 6), -3);
    }

    /** "PUT ... (wherever it was)": many may be at one PLACE. */
    private static void allAtOnePlace() {
        SeeSaws x = Due.seven(1, 0);
        due("all ON", x.count(1), 7);
        due("21", x.tilt(0), 21);
    }

    /** "To TAKE one that is ON: it is OFF." The only one; the last of seven; one that is BARRED where it is. */
    private static void takeTheLastOne() {
        SeeSaws x = Due.seven(2, 6);
        for (int claim = 6; claim >= 0; claim--) {
            due("take " + claim, x.take(claim), 6 * claim);
        }
        due("none ON", x.count(1), 0);
        due("no more", x.take(0), -3);
        x.put(0, 0);
        Due.forced(x, "bars");
        due("though barred", x.take(0), 0);
    }

    /** Promises 16, 17: "TILT either way then": with the left side down, with the right side down. */
    private static void putAndTakeTellEitherWay() {
        SeeSaws x = Due.plank(5, 4);
        due("left", x.put(0, 0), 15);
        due("left still", x.put(1, 6), 3);
        due("left", x.take(1), 15);
        due("none", x.take(0), 0);
        due("right", x.put(0, 6), 15);
        due("right still", x.put(1, 0), 3);
        due("right", x.take(1), 15);
    }

    /** "To PAD: it is so HEAVY." ON or OFF, BARRED or not, up or down by one. */
    private static void padByOne() {
        SeeSaws x = Due.placed(29, 6, 2, 7);
        Due.forced(x, "bars");
        due("29 to 30", x.pad(0, 30), 29);
        due("tilt then", x.tilt(0), 90);
        due("2 to 1, OFF", x.pad(1, 1), 2);
        due("it is OFF still", x.of(1, 2), NONE);
    }

    /** "all that are ON are less HEAVY by what they SHED (1 at least". */
    private static void shedTo1AtLeast() {
        SeeSaws x = Due.placed(10, 0, 9, 1, 2, 2, 1, 3, 30, 4, 30, 7);
        Due.forced(x, "sheds 9");
        due("four are less heavy", x.pass(), 4);
        due("10 less 9", x.of(0, 0), 1);
        due("9 less 9", x.of(1, 0), 1);
        due("2 less 9", x.of(2, 0), 1);
        due("1 less 9", x.of(3, 0), 1);
        due("30 less 9", x.of(4, 0), 21);
        due("OFF", x.of(5, 0), 30);
        due("one alone", x.pass(), 1);
    }

    /** "all asked as it was ahead": by the DAY and by how HEAVY it was ahead, not by the next ones. */
    private static void shedAsItWasAhead() {
        SeeSaws x = Due.placed(8, 0, 8, 1);
        Due.forced(x, "sheds day");
        due("DAY 0 sheds 0", x.pass(), 0);
        due("DAY 1 sheds 1", x.pass(), 2);
        due("DAY 2 sheds 2", x.pass(), 2);
        due("8 less 1 less 2", x.of(0, 0) * 10 + x.of(1, 0), 55);
        Due.forced(x, "sheds 1 if heavy = 5");
        due("by how heavy each was", x.pass(), 2);
        due("4 each", x.of(0, 0) * 10 + x.of(1, 0), 44);
    }

    /** "it is the next DAY (at 999 it can't be)". */
    private static void noDayBehind999() {
        SeeSaws x = Due.placed(9, 0);
        Due.forced(x, "sheds 1");
        x.terms(0, 997);
        due("to 998", x.pass(), 1);
        due("to 999", x.pass(), 1);
        due("no further", x.pass(), -3);
        due("nothing is shed", x.of(0, 0), 7);
        due("DAY", x.count(13), 999);
        x.terms(0, 0);
        due("it goes on", x.pass(), 1);
    }

    // ---- promises ----

    /** Promise 1: "A bare plank." Nothing there, nothing to undo, nothing refused yet. */
    private static void bare() {
        SeeSaws x = new SeeSaws();
        int[] counts = {0, 0, 0, 0, 0, 0, 0, 0, 0, 0, 0, 0, NONE, 0, 1, 0, 0};
        for (int what = 0; what < counts.length; what++) {
            due("count(" + what + ")", x.count(what), counts[what]);
        }
        due("status()", x.status(), 0);
        due("fault()", x.fault(), NONE);
        due("stopped()", x.stopped(), NONE);
        due("sawdust()", x.sawdust(), 0);
        due("drawn(0, 0)", x.drawn(0, 0), NONE);
        due("drawn(0, 1)", x.drawn(0, 1), NONE);
        due("tilt(0), tilt(1), tilt(2)", x.tilt(0) * 100 + x.tilt(1) * 10 + x.tilt(2), 1);
        due("put", x.put(0, 0), -2);
        due("take", x.take(0), -2);
        due("pad", x.pad(0, 1), -2);
        due("force(0)", x.force(0), -2);
        due("back(0)", x.back(0), -2);
        due("back(1)", x.back(1), -2);
        due("undo()", x.undo(), -3);
        due("days(0, 1)", x.days(0, 1), -3);
        due("row()", x.row(), -6);
        due("law()", x.law(), -6);
        due("orders()", x.orders(), -6);
        due("pass() of none", x.pass(), 0);
        due("DAY 1", x.count(13), 1);
    }

    /** "An object is used for at most 512 calls": the 512th answers as the first ones do. */
    private static void the512thCall() {
        SeeSaws x = Due.plank(1);
        for (int n = 2; n <= 510; n++) {
            due("call " + n, x.pad(0, n % 2 == 0 ? 2 : 1), n % 2 == 0 ? 1 : 2);
        }
        due("call 511", x.undo(), 2);
        due("call 512", x.of(0, 0), 1);
    }

    /** Promise 2: "-1; -5": the first of them; a number that can't be is told though there is no room. */
    private static void claimMinus1AheadOfMinus5() {
        SeeSaws x = Due.seven(1, 7);
        due("heavy 0", x.claim(0, 0), -1);
        due("heavy 31", x.claim(31, 0), -1);
        due("kind 4", x.claim(1, 4), -1);
        due("kind -1", x.claim(1, -1), -1);
        due("both", x.claim(0, 4), -1);
        due("good, no room", x.claim(1, 0), -5);
    }

    /** Promise 3: "the PLACE (2; NONE: OFF), what it COUNTS as there (3; NONE: OFF), what it SHEDS there (4; ..)". */
    private static void ofOneThatIsOff() {
        SeeSaws x = Due.plank(5);
        Due.forced(x, "counts 3; sheds 2");
        due("OFF", x.of(0, 2) + x.of(0, 3) + x.of(0, 4), -3);
        x.put(0, 0);
        due("ON at 0", x.of(0, 2) * 100 + x.of(0, 3) * 10 + x.of(0, 4), 32);
        x.take(0);
        due("OFF again", x.of(0, 2) + x.of(0, 3) + x.of(0, 4), -3);
    }

    /** Promise 3: COUNTS 0 and SHEDS 0 are answers, not NONE. */
    private static void ofOneThatCounts0() {
        SeeSaws x = Due.placed(5, 6);
        due("sheds without a law", x.of(0, 4), 0);
        due("counts without a law", x.of(0, 3), 5);
        Due.forced(x, "counts 0");
        due("counts 0", x.of(0, 3), 0);
    }

    /** Promise 3: "NONE." No such CLAIM, no such what. */
    private static void ofOthers() {
        SeeSaws x = Due.seven(5, 3);
        due("what 0 of 6", x.of(6, 0), 5);
        for (int claim : new int[] {-1, 7, LEAST, MOST}) {
            for (int what = 0; what < 5; what++) {
                due("of(" + claim + ", " + what + ")", x.of(claim, what), NONE);
            }
        }
        for (int what : new int[] {-1, 5, LEAST, MOST}) {
            due("of(0, " + what + ")", x.of(0, what), NONE);
            due("of(7, " + what + ")", x.of(7, what), NONE);
        }
    }

    /** Promise 4: "Of a CLAIM at a PLACE 0 .. 6 ... NONE." */
    private static void asksOthers() {
        SeeSaws x = Due.seven(5, 3);
        due("claim 6, place 6", x.asks(6, 6, 2), 15);
        due("claim 0, place 0", x.asks(0, 0, 2), 15);
        for (int no : new int[] {-1, 7, LEAST, MOST}) {
            due("claim " + no, x.asks(no, 0, 0), NONE);
            due("place " + no, x.asks(0, no, 0), NONE);
            due("what " + no, x.asks(0, 0, no), NONE);
        }
        due("what 3", x.asks(0, 0, 3), NONE);
    }

    /** Promise 4: "whether BARRED (1: 1, 0), TILT either way, if it were there (2)". Where it is; OFF; BARRED. */
    private static void asksWhereItIs() {
        SeeSaws x = Due.placed(5, 0, 4, 7);
        Due.forced(x, "bars if claim = 0");
        due("barred where it is", x.asks(0, 0, 1), 1);
        due("tilt where it is", x.asks(0, 0, 2), 15);
        due("to the middle", x.asks(0, 3, 2), 0);
        due("to the other end", x.asks(0, 6, 2), 15);
        due("one that is OFF", x.asks(1, 6, 2), 3);
        due("in the middle", x.asks(1, 3, 2), 15);
        due("not barred", x.asks(1, 3, 1), 0);
    }

    /** Promise 5: "which side is down (1: 0 none, 1 the left one (TILT below 0), 2 the right one)". By one. */
    private static void tiltByOne() {
        SeeSaws x = Due.placed(1, 2);
        due("left by one", x.tilt(0) * 100 + x.tilt(1) * 10 + x.tilt(2), 110);
        x.put(0, 4);
        due("right by one", x.tilt(0) * 100 + x.tilt(1) * 10 + x.tilt(2), 120);
        x.put(0, 3);
        due("even", x.tilt(0) * 100 + x.tilt(1) * 10 + x.tilt(2), 1);
    }

    /** Promise 5: "NONE." */
    private static void tiltOthers() {
        SeeSaws x = Due.placed(1, 2);
        for (int what : new int[] {-1, 3, LEAST, MOST}) {
            due("tilt(" + what + ")", x.tilt(what), NONE);
        }
    }

    /** Promise 6: "-1." No such TERM, though the value could be. */
    private static void termsOthers() {
        SeeSaws x = new SeeSaws();
        for (int what : new int[] {-1, 4, LEAST, MOST}) {
            due("terms(" + what + ", 0)", x.terms(what, 0), -1);
            due("terms(" + what + ", -1)", x.terms(what, -1), -1);
        }
    }

    /** Promise 15: "A LAW is in FORCE (NONE: none): which was. -2." None; the last of six. */
    private static void forceOfNoneAndOfSix() {
        SeeSaws x = Due.plank(1);
        due("none to none", x.force(NONE), NONE);
        due("law 0 of none", x.force(0), -2);
        for (int law = 0; law < 6; law++) {
            Due.law(x, "counts " + law);
        }
        due("law 5", x.force(5), NONE);
        due("by it", x.asks(0, 0, 0), 5);
        for (int law : new int[] {6, -2, LEAST, MOST}) {
            due("law " + law, x.force(law), -2);
        }
        due("it stays", x.count(12), 5);
        due("the same again", x.force(5), 5);
        due("law 0", x.force(0), 5);
        due("none", x.force(NONE), 0);
        due("none is in force", x.count(12), NONE);
    }

    /** Promise 15: "It leaves what can be undone." */
    private static void forceLeavesUndo() {
        SeeSaws x = Due.placed(1, 2);
        Due.law(x, "bars");
        x.force(0);
        due("one", x.count(5), 1);
        due("undone though it is barred everywhere now", x.undo(), 0);
        due("the law stays", x.count(12), 0);
        due("it can't be put again", x.put(0, 2), -3);
    }

    /** Promise 16: "-1 (the PLACE); -2; -3." Two at once: the first. */
    private static void putTwoAtOnce() {
        SeeSaws x = Due.placed(1, 2);
        Due.forced(x, "bars if place = 4");
        due("-1, -2", x.put(1, 7), -1);
        due("-1, -2 below", x.put(-1, -1), -1);
        due("-2 at a place that is barred for others", x.put(1, 4), -2);
        due("-2 where the other one is", x.put(1, 2), -2);
        due("claim least", x.put(LEAST, 0), -2);
        due("claim most", x.put(MOST, 0), -2);
        due("-3 barred", x.put(0, 4), -3);
        due("-3 there", x.put(0, 2), -3);
        Due.forced(x, "bars");
        due("-3 there and barred", x.put(0, 2), -3);
    }

    /** Promise 17: "-2; -3." */
    private static void takeOthers() {
        SeeSaws x = Due.plank(1, 1);
        for (int claim : new int[] {-1, 2, 7, LEAST, MOST}) {
            due("take(" + claim + ")", x.take(claim), -2);
        }
        due("OFF", x.take(1), -3);
    }

    /** Promise 18: "-1; -2; -3 it is so." Two at once: the first. */
    private static void padTwoAtOnce() {
        SeeSaws x = Due.plank(1, 30);
        due("-1, -2", x.pad(2, 0), -1);
        due("-1, -2", x.pad(-1, 31), -1);
        for (int claim : new int[] {-1, 2, 7, LEAST, MOST}) {
            due("claim " + claim, x.pad(claim, 1), -2);
        }
        due("1 is so", x.pad(0, 1), -3);
        due("30 is so", x.pad(1, 30), -3);
    }

    /** Promise 19: "how many are less HEAVY". None, one, seven. */
    private static void passOfNoneAndOfSeven() {
        SeeSaws bare = new SeeSaws();
        due("no claims", bare.pass(), 0);
        due("the next DAY", bare.count(13), 1);
        SeeSaws off = Due.seven(9, 7);
        Due.forced(off, "sheds 9");
        due("all OFF", off.pass(), 0);
        SeeSaws on = Due.seven(9, 0);
        Due.forced(on, "sheds 1");
        due("seven", on.pass(), 7);
        SeeSaws light = Due.seven(1, 0);
        Due.forced(light, "sheds 9");
        due("1 is the least", light.pass(), 0);
    }

    /** Promise 20: "The latest put(), take(), pad(), pass() ... is undone: 0 .. 3." */
    private static void undoTellsWhich() {
        SeeSaws x = Due.plank(5);
        x.put(0, 0);
        due("put", x.undo(), 0);
        x.put(0, 0);
        x.take(0);
        due("take", x.undo(), 1);
        x.pad(0, 6);
        due("pad", x.undo(), 2);
        x.pass();
        due("pass", x.undo(), 3);
        due("the put is left", x.count(5), 1);
        due("as it was", x.of(0, 0) * 100 + x.of(0, 2) * 10 + x.count(13), 500);
    }

    /** Promise 20: "-3 there is none". At first; behind the last; an undo() can't be undone. */
    private static void undoOfNone() {
        SeeSaws x = Due.plank(5);
        due("at first", x.undo(), -3);
        x.put(0, 0);
        due("one", x.undo(), 0);
        due("no more", x.undo(), -3);
        due("OFF", x.of(0, 2), NONE);
    }

    /** Promise 20: a refused put(), take(), pad(), pass() is nothing that can be undone. */
    private static void undoSkipsRefused() {
        SeeSaws x = Due.plank(5);
        x.put(0, 9);
        x.put(1, 0);
        x.take(0);
        x.pad(0, 5);
        x.terms(0, 999);
        x.pass();
        due("none", x.count(5), 0);
        due("none", x.undo(), -3);
    }

    /** Promise 20: "16 are kept": 15, 16, and one more, of which the first is lost. */
    private static void undoKeeps16() {
        SeeSaws x = Due.plank(1);
        for (int n = 1; n <= 17; n++) {
            x.pad(0, 1 + n);
            due("kept behind " + n, x.count(5), Math.min(n, 16));
        }
        for (int n = 16; n >= 1; n--) {
            due("undo", x.undo(), 2);
            due("heavy", x.of(0, 0), 1 + n);
            due("kept", x.count(5), n - 1);
        }
        due("the first is lost", x.undo(), -3);
        due("behind the first pad", x.of(0, 0), 2);
    }

    /** Promise 20: "16 are kept": twice around, with some undone between. */
    private static void undoWrapsAround() {
        SeeSaws x = Due.plank(1);
        for (int n = 0; n < 40; n++) {
            x.put(0, n % 7);
            if (n % 4 == 3) {
                due("undo", x.undo(), 0);
                x.pass();
            }
        }
        for (int n = 39; n > 23; n--) {
            due("kept", x.count(5), n - 23);
            due("undo " + n, x.undo(), n % 4 == 3 ? 3 : 0);
        }
        due("kept", x.count(5), 0);
        due("behind 24 of them", x.of(0, 2), 22 % 7);
        due("six days", x.count(13), 6);
    }

    /** Promise 20: "(by ORDERS, too; 16 are kept)": each order is one of them. */
    private static void undoOfOrders() {
        SeeSaws x = Due.plank(1);
        due("17 orders", Due.orders(x, "pass times 17"), 17);
        due("16 are kept", x.count(5), 16);
        for (int n = 0; n < 16; n++) {
            due("undo", x.undo(), 3);
        }
        due("DAY 1", x.count(13), 1);
        due("no more", x.undo(), -3);
        due("orders that are not run", Due.orders(x, "pass if 1 = 2"), 0);
        due("none", x.count(5), 0);
    }

    /** Promise 20: orders that stop leave the 16 as they were, though they had pushed them all out. */
    private static void undoBehindOrdersThatStop() {
        SeeSaws x = Due.plank(1);
        for (int n = 1; n <= 16; n++) {
            x.pad(0, 1 + n);
        }
        due("stop", Due.orders(x, "pass times 20; take 0"), -3);
        due("16", x.count(5), 16);
        for (int n = 16; n >= 1; n--) {
            due("undo", x.undo(), 2);
            due("heavy", x.of(0, 0), n);
        }
        due("none", x.undo(), -3);
    }

    /** Promise 20: "nothing that was ahead of a claim(), terms(), row() that was not REFUSED can be undone". */
    private static void undoNothingAheadOfThese() {
        SeeSaws x = Due.plank(5);
        x.put(0, 0);
        x.claim(1, 0);
        due("claim", x.undo(), -3);
        x.put(0, 1);
        x.terms(2, 0);
        due("terms, to what it is", x.undo(), -3);
        x.put(0, 2);
        Due.tape(x, "\1\0");
        x.row();
        due("row", x.undo(), -3);
        x.put(0, 3);
        Due.tape(x, "\0");
        x.row();
        due("row of sawdust alone", x.undo(), -3);
        x.put(0, 4);
        due("what is behind them can be", x.undo(), 0);
        due("where it was", x.of(0, 2), 3);
    }

    /** Promise 20: ".. that was not REFUSED": those that were leave all. */
    private static void undoAheadOfRefusedOnes() {
        SeeSaws x = Due.seven(5, 7);
        x.put(0, 0);
        x.claim(0, 0);
        x.claim(1, 0);
        x.terms(4, 0);
        x.terms(0, 1000);
        x.row();
        due("one is left", x.count(5), 1);
        due("undo", x.undo(), 0);
    }

    /** Promise 20: all other calls leave what can be undone. */
    private static void undoAheadOfOthers() {
        SeeSaws x = Due.plank(5, 4);
        x.put(0, 0);
        Due.law(x, "counts 1");
        Due.law(x, "nonsense");
        Due.orders(x, "nonsense");
        Due.orders(x, "take 1");
        x.force(0);
        x.weighed(1, 2, 1);
        x.forget();
        x.days(0, 60);
        x.image(0);
        x.settle(NONE);
        x.least(NONE);
        x.moved(NONE);
        due("one is left", x.count(5), 1);
        due("undo", x.undo(), 0);
        due("OFF", x.of(0, 2), NONE);
    }

    /** Promise 20: a DAY that passed to 999 can be undone, and pass again. */
    private static void undoOfTheLastDay() {
        SeeSaws x = Due.placed(2, 0);
        Due.forced(x, "sheds 1");
        x.terms(0, 998);
        due("pass", x.pass(), 1);
        due("no further", x.pass(), -3);
        due("undo", x.undo(), 3);
        due("998, heavy 2", x.count(13) * 10 + x.of(0, 0), 9982);
        due("pass", x.pass(), 1);
    }

    public static void main(String[] args) throws ReflectiveOperationException {
        Due.runAll(EdgesOfPlankTest.class);
    }
}
