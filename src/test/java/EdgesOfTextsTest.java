/**
 * Boundary cases of Terms II, of a ROW (Terms IV) and of promises 7 to 14; a test for each sentence that names one,
 * with the sentence above it. What a refused call leaves is in RefusedTest.
 */
public final class EdgesOfTextsTest {
    private static final int NONE = SeeSaws.NONE;
    private static final int LEAST = Integer.MIN_VALUE;
    private static final int MOST = Integer.MAX_VALUE;
    private static final String BILLION = "1000*1000*1000";

    private static void due(String call, long got, long want) {
        Due.due(call, got, want);
    }

    private static String times(String what, int times) {
        return Due.repeated(what, times, "");
    }

    private static void lawFault(String text, int fault) {
        SeeSaws x = new SeeSaws();
        due("law " + text, Due.law(x, text), -6);
        due("fault of " + text, x.fault(), fault);
        due("laws behind " + text, x.count(4), 0);
    }

    private static void goodLaw(String text) {
        SeeSaws x = new SeeSaws();
        due("law " + text, Due.law(x, text), 0);
        due("fault of " + text, x.fault(), NONE);
    }

    /** A plank on which orders are tried: claim 0 is heavy 3 at place 1, claim 1 is heavy 4 and OFF. */
    private static SeeSaws yard() {
        return Due.placed(3, 1, 4, 7);
    }

    private static void ordersFault(String text, int fault) {
        SeeSaws x = yard();
        due("orders " + text, Due.orders(x, text), -6);
        due("fault of " + text, x.fault(), fault);
        due("stopped at " + text, x.stopped(), NONE);
    }

    private static void run(String text, int many) {
        SeeSaws x = yard();
        due("orders " + text, Due.orders(x, text), many);
        due("fault of " + text, x.fault(), NONE);
        due("stopped at " + text, x.stopped(), NONE);
    }

    private static void stop(String text, int at) {
        SeeSaws x = yard();
        due("orders " + text, Due.orders(x, text), -3);
        due("stopped at " + text, x.stopped(), at);
        due("fault of " + text, x.fault(), NONE);
        due("as ahead of " + text, x.of(0, 0) * 100 + x.of(0, 2) * 10 + x.of(1, 0), 314);
        due("as ahead of " + text, x.of(1, 2) + x.count(13), NONE);
        due("to undo behind " + text, x.count(5), 1);
        due("refused by -1, -2, -3", x.count(7) * 100 + x.count(8) * 10 + x.count(9), 1);
    }

    /** What a claim, heavy 7, of kind 2, counts as at place 5 by a law, on DAY 12 in MOOD 3 at SLACK 4. */
    private static void counts(String law, int want) {
        SeeSaws x = Due.plank(1);
        x.claim(7, 2);
        x.terms(0, 12);
        x.terms(2, 3);
        x.terms(3, 4);
        Due.forced(x, law);
        due("counts by " + law, x.asks(1, 5, 0), want);
    }

    /** Whether "bars if" a test holds. */
    private static void so(String test, int want) {
        SeeSaws x = Due.plank(7);
        Due.forced(x, "bars if " + test);
        due("bars if " + test, x.asks(0, 0, 1), want);
    }

    // ---- the tape, Terms II, promises 7 and 8 ----

    /** Promise 7: "NONE, if there would be more than 400." Room for 20 exactly, and for one byte less. */
    private static void feedTo400() {
        SeeSaws x = new SeeSaws();
        for (int n = 20; n <= 400; n += 20) {
            due("feed", x.feed(0, 0, 0, 0, 0), n);
        }
        due("400 are full", x.feed(0, 0, 0, 0, 0), NONE);
        due("it stays", x.count(6), 400);
        x.end(399);
        due("399", x.feed(0, 0, 0, 0, 0), NONE);
        x.end(381);
        due("381", x.feed(0, 0, 0, 0, 0), NONE);
        due("it stays", x.count(6), 381);
        x.end(380);
        due("380", x.feed(0, 0, 0, 0, 0), 400);
    }

    /** Promise 7: "four of each number, the highest first": the ints' own least and greatest, too. */
    private static void feedBytes() {
        SeeSaws x = new SeeSaws();
        due("feed", x.feed(0x1e030100, 0x02010302, LEAST, MOST, -1), 20);
        due("four claims", x.row(), 4);
        due("six are none", x.sawdust(), 6);
        int[] heavy = {30, 1, 2, 3};
        int[] kind = {3, 0, 1, 2};
        for (int claim = 0; claim < 4; claim++) {
            due("heavy " + claim, x.of(claim, 0), heavy[claim]);
            due("kind " + claim, x.of(claim, 1), kind[claim]);
        }
    }

    /** Promise 7: "Twenty bytes come behind the TAPE": behind what end() left. */
    private static void feedBehindTheEnd() {
        SeeSaws x = new SeeSaws();
        x.feed(0x05000600, 0, 0, 0, 0);
        x.end(2);
        due("22", x.feed(0x07000000, 0, 0, 0, 0), 22);
        due("5, 7", x.row(), 2);
        due("5, 7", x.of(0, 0) * 10 + x.of(1, 0), 57);
    }

    /** Promise 8: "NONE, if it has not so many, or n is below 0." */
    private static void endWithin() {
        SeeSaws x = new SeeSaws();
        due("0 of none", x.end(0), 0);
        due("1 of none", x.end(1), NONE);
        due("-1 of none", x.end(-1), NONE);
        x.feed(0, 0, 0, 0, 0);
        for (int n : new int[] {21, 400, 401, -1, LEAST, MOST}) {
            due("end(" + n + ") of 20", x.end(n), NONE);
            due("it stays", x.count(6), 20);
        }
        due("all", x.end(20), 20);
        due("all but one", x.end(19), 19);
        due("what was cut off does not come again", x.end(20), NONE);
        due("none", x.end(0), 0);
        due("none", x.count(6), 0);
    }

    // ---- a ROW, Terms IV, promises 9 and 10 ----

    private static int rowOf(SeeSaws x, int... bytes) {
        StringBuilder s = new StringBuilder();
        for (int b : bytes) {
            s.append((char) b);
        }
        Due.tape(x, s.toString());
        return x.row();
    }

    /** Promise 9: "-6 the TAPE is empty." */
    private static void rowOfNothing() {
        SeeSaws x = new SeeSaws();
        due("never fed", x.row(), -6);
        x.feed(1, 1, 1, 1, 1);
        x.end(0);
        due("cut to none", x.row(), -6);
        due("no sawdust", x.sawdust(), 0);
    }

    /** Terms IV: "one that can't be ... is SAWDUST": HEAVY 0, 1, 30, 31; a KIND 3, 4; the highest bytes. */
    private static void rowOfEdges() {
        int[][] twos = {{0, 0, 0}, {1, 0, 1}, {30, 3, 1}, {31, 3, 0}, {30, 4, 0}, {1, 255, 0}, {255, 0, 0},
            {128, 0, 0}, {129, 1, 0}, {1, 128, 0}, {1, 129, 0}};
        for (int[] two : twos) {
            SeeSaws x = new SeeSaws();
            due("row of " + two[0] + ", " + two[1], rowOf(x, two[0], two[1]), two[2]);
            due("sawdust of " + two[0] + ", " + two[1], x.sawdust(), 1 - two[2]);
            due("claims", x.count(0), two[2]);
        }
    }

    /** Terms IV: "one within which the TAPE ends". */
    private static void rowThatEndsWithin() {
        SeeSaws x = new SeeSaws();
        due("one byte", rowOf(x, 5), 0);
        due("sawdust", x.sawdust(), 1);
        due("three bytes", rowOf(x, 5, 0, 6), 1);
        due("sawdust", x.sawdust(), 1);
        due("four bytes", rowOf(x, 5, 0, 6, 0), 2);
        due("no sawdust", x.sawdust(), 0);
    }

    /** Terms IV: "one for which there is no room". */
    private static void rowWithoutRoom() {
        SeeSaws x = new SeeSaws();
        due("seven", rowOf(x, 1, 0, 1, 0, 1, 0, 1, 0, 1, 0, 1, 0, 1, 0), 7);
        due("no sawdust", x.sawdust(), 0);
        due("one more", rowOf(x, 1, 0), 0);
        due("sawdust", x.sawdust(), 1);
        due("not refused", x.status(), 0);
        SeeSaws y = new SeeSaws();
        due("of eight seven", rowOf(y, 1, 0, 2, 0, 3, 0, 4, 0, 5, 0, 6, 0, 7, 0, 8, 0), 7);
        due("sawdust", y.sawdust(), 1);
        due("the seventh", y.of(6, 0), 7);
    }

    /** A TAPE of 400 bytes: 200 twos. */
    private static void rowOf400() {
        SeeSaws x = new SeeSaws();
        for (int n = 0; n < 20; n++) {
            x.feed(0x01000100, 0x01000100, 0x01000100, 0x01000100, 0x01000100);
        }
        due("seven come", x.row(), 7);
        due("193 do not", x.sawdust(), 193);
        due("the TAPE is empty then", x.count(6), 0);
    }

    /** The last two of 400 bytes come, where all others are sawdust. */
    private static void rowOf400TheLast() {
        SeeSaws x = new SeeSaws();
        for (int n = 0; n < 20; n++) {
            x.feed(0, 0, 0, 0, 0x00001e03);
        }
        due("cut to 380", x.end(380), 380);
        x.feed(0, 0, 0, 0, 0x00001d02);
        due("seven come, not the last", x.row() * 1000 + x.sawdust(), 7193);
        SeeSaws y = new SeeSaws();
        for (int n = 0; n < 19; n++) {
            y.feed(0, 0, 0, 0, 0);
        }
        due("400", y.feed(0, 0, 0, 0, 0x00001d02), 400);
        due("the last comes", y.row() * 1000 + y.sawdust(), 1199);
        due("29 of kind 2", y.of(0, 0) * 10 + y.of(0, 1), 292);
    }

    /** Promise 10: "in the latest row() that was not REFUSED (0 ahead of any)". */
    private static void sawdustOfTheLatest() {
        SeeSaws x = new SeeSaws();
        due("ahead of any", x.sawdust(), 0);
        rowOf(x, 0, 0, 0, 0);
        due("two", x.sawdust(), 2);
        due("refused", x.row(), -6);
        due("two still", x.sawdust(), 2);
        rowOf(x, 1, 0);
        due("none", x.sawdust(), 0);
    }

    // ---- TOKENS ----

    /** "longest rows of letters a .. z": the signs beside a and z are no letters. */
    private static void lettersEnd() {
        lawFault("bars`", 4);
        lawFault("bars{", 4);
        lawFault("`bars", 0);
        lawFault("barsa", 0);
        lawFault("barsz", 0);
        lawFault("bar s", 0);
        lawFault("Bars", 0);
        lawFault("barS", 0);
        lawFault("bars Z", 5);
    }

    /** "of digits": the signs beside 0 and 9 are none; a letter ends them. */
    private static void digitsEnd() {
        lawFault("counts 1/", 9);
        lawFault("counts 1:", 8);
        goodLaw("counts 1if 1=1");
        goodLaw("counts1if1=1or2=2");
        lawFault("counts 1 0", 9);
        lawFault("counts 1x", 8);
    }

    /** "single other bytes": each is a TOKEN of its own. */
    private static void othersAreSingle() {
        goodLaw("bars if ((1=1))");
        lawFault("bars if 1==1", 10);
        lawFault("bars if 1<=1", 10);
        lawFault("bars;;bars", 5);
        lawFault("counts 1--1", 9);
    }

    /** "any blanks (32) between": none, many, at both ends; no other byte is one. */
    private static void blanksAre32Alone() {
        goodLaw("   bars   if  1  =  1   ");
        goodLaw("bars if 1=1;bars");
        for (int other : new int[] {0, 9, 10, 13, 31, 33, 127, 128, 160, 255}) {
            lawFault("bars " + (char) other + " if 1=1", 5);
            lawFault((char) other + "bars", 0);
        }
        lawFault("  " + (char) 160, 2);
    }

    // ---- one TEXT behind another ----

    /** PARTS and brackets are counted anew in each TEXT, behind a FAULT, too. */
    private static void countedAnew() {
        SeeSaws x = yard();
        String fifty = "counts " + Due.repeated("1", 50, "+");
        due("fifty", Due.law(x, fifty), 0);
        due("fifty more", Due.law(x, fifty), 1);
        due("a fault at the 51st", Due.law(x, fifty + "+1"), -6);
        due("fifty behind it", Due.law(x, fifty), 2);
        due("a fault in brackets", Due.law(x, "counts [[[[[[[[x"), -6);
        due("eight behind it", Due.law(x, "counts [[[[[[[[1]]]]]]]]"), 3);
        due("a fault at the 9th", Due.law(x, "bars if (((((((((1"), -6);
        due("eight behind it", Due.law(x, "bars if ((((((((1=1))))))))"), 4);
        due("twelve clauses", Due.orders(x, Due.repeated("pass", 12, ";")), 12);
        due("twelve more", Due.orders(x, Due.repeated("pass", 12, ";")), 12);
    }

    /** Many long TEXTS are read one behind another. */
    private static void manyTexts() {
        SeeSaws x = yard();
        String text = Due.repeated("pass if not 1=2 and 3=3 or 4=4", 8, ";");
        for (int n = 0; n < 20; n++) {
            due("orders " + n, Due.orders(x, text), 8);
        }
    }

    /** Nothing of a TEXT is left for the next one: no CLAUSE, no "if", no TIMES. */
    private static void nothingOfTheOneBefore() {
        SeeSaws x = yard();
        Due.law(x, "counts 1;bars;sheds 5;counts 2");
        Due.forced(x, "counts 3");
        due("counts 3", x.asks(0, 0, 0), 3);
        due("not barred", x.asks(0, 0, 1), 0);
        due("sheds nothing", x.of(0, 4), 0);
        Due.law(x, "bars;bars;bars x");
        Due.forced(x, "counts 4");
        due("not barred", x.asks(0, 0, 1), 0);
        Due.forced(x, "counts 5 if 1=2");
        Due.forced(x, "counts 6");
        due("without the if", x.asks(0, 0, 0), 6);
        due("3 times", Due.orders(x, "pass times 3 if 1=1"), 3);
        due("once", Due.orders(x, "pass"), 1);
        due("never", Due.orders(x, "pass if 1=2"), 0);
        due("once", Due.orders(x, "pass"), 1);
    }

    // ---- CLAUSES, PARTS, brackets ----

    /** "CLAUSE {";" CLAUSE}, 12 at most (FAULT at the 13th's first TOKEN)". */
    private static void twelveClauses() {
        String twelve = Due.repeated("bars", 12, ";");
        goodLaw("bars");
        goodLaw(twelve);
        lawFault(twelve + ";bars", 60);
        lawFault(twelve + "; bars", 61);
        lawFault(twelve + ";x", 60);
        lawFault(twelve + ";", 60);
        lawFault(twelve + ";  ", 62);
        lawFault(twelve + " bars", 60);
        String orders = Due.repeated("pass", 12, ";");
        run(orders, 12);
        ordersFault(orders + ";pass", 60);
        ordersFault(orders + ";", 60);
    }

    /** Of the 12 CLAUSES all are asked: the first and the twelfth. */
    private static void theTwelfthHolds() {
        counts("counts 5;" + Due.repeated("bars if 1=2", 10, ";") + ";counts 6", 6);
        counts("counts 5;" + Due.repeated("bars if 1=2", 10, ";") + ";counts 6/0", 5);
    }

    /** "50 PARTS that are NUMBERS and words (FAULT at the 51st)": in one SUM, in many CLAUSES, in a TEST. */
    private static void fiftyParts() {
        String fifty = Due.repeated("1", 50, "+");
        goodLaw("counts " + fifty);
        lawFault("counts " + fifty + "+1", 107);
        lawFault("counts " + fifty + "+arm", 107);
        lawFault("counts " + fifty + "+x", 107);
        lawFault("counts " + fifty + ";counts 1", 114);
        lawFault("counts " + fifty + " if 1=1", 110);
        goodLaw("counts " + fifty + ";bars");
        goodLaw("counts " + Due.repeated("arm", 48, "+") + " if kind=1");
        lawFault("counts " + Due.repeated("arm", 49, "+") + " if kind=1", 211);
        goodLaw("bars if " + Due.repeated("1=1", 25, " or "));
        lawFault("bars if " + Due.repeated("1=1", 25, " or ") + " or 1=1", 8 + 25 * 7);
    }

    /** Of 25 comparisons, all that 50 PARTS can be, each is asked: the last alone decides. */
    private static void fiftyPartsAreAsked() {
        so(Due.repeated("1=2", 24, " or ") + " or 1=1", 1);
        so(Due.repeated("1=2", 25, " or "), 0);
        so(Due.repeated("1=1", 25, " and "), 1);
        so(Due.repeated("1=1", 24, " and ") + " and 1=2", 0);
        counts("counts " + Due.repeated("1", 50, "+"), 50);
        counts("counts " + Due.repeated("[1", 8, "+") + times("]", 8) + "+" + Due.repeated("1", 42, "+"), 50);
    }

    /** Brackets are no PARTS: fifty of them in brackets can be. */
    private static void bracketsAreNoParts() {
        goodLaw("counts " + Due.repeated("[1]", 50, "+"));
        lawFault("counts " + Due.repeated("[1]", 50, "+") + "+[1]", 7 + 200 + 1);
    }

    /** "C, TIMES aside, NUMBERS and words count as PARTS." */
    private static void partsOfOrders() {
        String fortyNine = Due.repeated("at 0", 49, "+");
        run("put 1 at 0 times 1 if " + Due.repeated("at 0", 47, "+") + "=47", 1);
        ordersFault("put 1 at 0 times 1 if " + Due.repeated("at 0", 48, "+") + "=48", 22 + 48 * 5);
        run("pass times 20 if " + fortyNine + "<0", 0);
        ordersFault("pass times 20 if " + fortyNine + "+at 0<0", 17 + 50 * 5);
        ordersFault("pass times 20 if " + fortyNine + "+day<at 0", 17 + 49 * 5 + 4);
    }

    /** "8 brackets of both kinds within one another (FAULT at the 9th) at most". */
    private static void eightBrackets() {
        goodLaw("counts " + times("[", 8) + "1" + times("]", 8));
        lawFault("counts " + times("[", 9) + "1" + times("]", 9), 15);
        goodLaw("bars if " + times("(", 8) + "1=1" + times(")", 8));
        lawFault("bars if " + times("(", 9) + "1=1" + times(")", 9), 16);
        goodLaw("bars if " + times("(", 7) + "[1]=1" + times(")", 7));
        lawFault("bars if " + times("(", 8) + "[1]=1" + times(")", 8), 16);
        lawFault("bars if " + times("(", 8) + "1=[1]" + times(")", 8), 18);
        goodLaw("bars if (" + times("[", 7) + "1" + times("]", 7) + "=1)");
        lawFault("bars if (" + times("[", 8) + "1" + times("]", 8) + "=1)", 16);
        run("take " + times("[", 8) + "0" + times("]", 8), 1);
        ordersFault("take " + times("[", 9) + "0" + times("]", 9), 13);
    }

    /** "within one another": those that are closed do not count any more. */
    private static void bracketsBesideOneAnother() {
        goodLaw("counts " + Due.repeated("[1]", 20, "+"));
        goodLaw("counts " + times("[", 8) + "1" + times("]", 8) + "+" + times("[", 8) + "1" + times("]", 8));
        goodLaw("counts " + times("[", 7) + "[1]+[1]" + times("]", 7));
        lawFault("counts " + times("[", 7) + "[1]+[[1]]" + times("]", 7), 7 + 7 + 5);
        goodLaw("counts " + times("[", 8) + "1" + times("]", 8) + " if " + times("(", 8) + "1=1" + times(")", 8));
    }

    /** "not" is no bracket: it may stand as often as the TAPE has room. */
    private static void manyNots() {
        so(times("not ", 96) + "1=1", 1);
        so(times("not ", 95) + "1=1", 0);
        so("not(not(1=1))", 1);
    }

    /** "NUMBER (to 1,000)": 0, 1000, 1001, and numbers that would wrap around; noughts ahead do not matter. */
    private static void numbersTo1000() {
        counts("counts 0", 0);
        counts("counts 1000 / 100", 10);
        counts("counts 00000000000000000000000000000007 + 0001000 / 1000", 8);
        for (String no : new String[] {"1001", "9999", "10000", "2147483647", "2147483648", "4294967296",
            "4294967297", "18446744073709551616", "18446744073709551617", times("9", 300)}) {
            lawFault("counts " + no, 7);
            ordersFault("take " + no, 5);
        }
    }

    // ---- FAULT ----

    /** "FAULT: the first TOKEN that can't go on there (the end's: the TEXT's length)." The end, laws. */
    private static void endsOfLaws() {
        lawFault("counts", 6);
        lawFault("sheds", 5);
        lawFault("counts ", 7);
        lawFault("counts 1+", 9);
        lawFault("counts 1 *  ", 12);
        lawFault("counts [", 8);
        lawFault("counts [1", 9);
        lawFault("bars;", 5);
        lawFault("bars if", 7);
        lawFault("bars if not", 11);
        lawFault("bars if (", 9);
        lawFault("bars if 1", 9);
        lawFault("bars if 1=", 10);
        lawFault("bars if (1=1", 12);
        lawFault("bars if 1=1 and", 15);
        lawFault("bars if 1=1 or ", 15);
    }

    /** The same within a law: each sign where it can't go on. */
    private static void faultsOfLaws() {
        lawFault("if 1=1", 0);
        lawFault("counts if 1=1", 7);
        lawFault("counts ; bars", 7);
        lawFault("counts (1)", 7);
        lawFault("counts []", 8);
        lawFault("counts [1)", 9);
        lawFault("counts 1]", 8);
        lawFault("counts 1 < 2", 9);
        lawFault("counts -1", 7);
        lawFault("counts 1 */ 2", 10);
        lawFault("bars 1", 5);
        lawFault("bars if ()", 9);
        lawFault("bars if (1)", 10);
        lawFault("bars if (1=1]", 12);
        lawFault("bars if [1=1]", 10);
        lawFault("bars if 1=1=1", 11);
        lawFault("bars if 1 and 1=1", 10);
        lawFault("bars if 1=1 and or", 16);
        lawFault("bars if 1=not 1", 10);
        lawFault("bars if 1=1 not", 12);
        lawFault("bars if 1=1 if 1=1", 12);
        lawFault("bars times 2", 5);
        lawFault("put 0 at 0", 0);
    }

    /** The end, orders. */
    private static void endsOfOrders() {
        ordersFault("put", 3);
        ordersFault("put 0", 5);
        ordersFault("put 0 at", 8);
        ordersFault("take", 4);
        ordersFault("pad", 3);
        ordersFault("pad 0 ", 6);
        ordersFault("pad 0 to", 8);
        ordersFault("pass times", 10);
        ordersFault("pass if", 7);
        ordersFault("pass;", 5);
        ordersFault("take at", 7);
        ordersFault("take heavy ", 11);
    }

    /** The same within orders. */
    private static void faultsOfOrders() {
        ordersFault("put 0 to 1", 6);
        ordersFault("pad 0 at 1", 6);
        ordersFault("take 0 at 1", 7);
        ordersFault("take 0 to 1", 7);
        ordersFault("put at 0", 8);
        ordersFault("put at at 0", 7);
        ordersFault("pass 1", 5);
        ordersFault("pass if 1=1 times 2", 12);
        ordersFault("pass times 2 times 2", 13);
        ordersFault("pass times 2+1", 12);
        ordersFault("times 2", 0);
        ordersFault("counts 1", 0);
        run("put 1 at at 0", 1);
        run("put at 0 at at 0", 1);
    }

    /** "a word, as told": of each language its own words alone. */
    private static void wordsOfEachLanguage() {
        for (String word : new String[] {"claim", "heavy", "kind", "place", "arm", "day", "mood", "slack"}) {
            goodLaw("counts " + word);
        }
        for (String word : new String[] {"done", "latest", "tilt", "on", "at", "birds", "off", "put", "not", "if"}) {
            lawFault("counts " + word, 7);
        }
        lawFault("counts heavy 0", 13);
        for (String word : new String[] {"day", "done", "latest", "tilt", "on", "heavy 0", "at 0"}) {
            run("pass if " + word + "=" + word, 1);
        }
        for (String word : new String[] {"claim", "kind", "place", "arm", "mood", "slack", "birds", "to", "not"}) {
            ordersFault("take " + word, 5);
        }
    }

    /** "C: a NUMBER 0 .. 6". */
    private static void claimsInWords() {
        run("pass if heavy 0=3", 1);
        run("pass if heavy 6<0", 1);
        run("pass if at 006<0", 1);
        for (String no : new String[] {"7", "10", "1000", "4294967296", "4294967302", "day", "[0]", "-1"}) {
            ordersFault("take heavy " + no, 11);
            ordersFault("take at " + no, 8);
        }
    }

    /** "TIMES: a NUMBER 1 .. 20." */
    private static void timesAre1To20() {
        run("pass times 1", 1);
        run("pass times 20", 20);
        run("pass times 0020", 20);
        for (String no : new String[] {"0", "00", "21", "1000", "4294967297", "4294967316", "day", "[1]", "-1"}) {
            ordersFault("pass times " + no, 11);
        }
    }

    /** Promises 11, 12: "-6 (blanks alone: FAULT at the end)"; nothing at all; a full TAPE. */
    private static void blanksAlone() {
        for (int n : new int[] {0, 1, 2, 399, 400}) {
            lawFault(times(" ", n), n);
            ordersFault(times(" ", n), n);
        }
    }

    /** A TEXT of 400 bytes: it is read to its last byte. */
    private static void textOf400() {
        goodLaw(times(" ", 396) + "bars");
        lawFault(times(" ", 395) + "bars;", 400);
        lawFault("bars" + times(" ", 395) + "x", 399);
        lawFault("counts " + times(" ", 391) + "1+", 400);
        lawFault("counts " + times("1", 393), 7);
        lawFault(times("b", 400), 0);
        run(times(" ", 200) + "pass" + times(" ", 196), 1);
        SeeSaws x = Due.plank(1);
        Due.forced(x, times(" ", 391) + "counts 42");
        due("counts 42", x.asks(0, 0, 0), 42);
    }

    /** What end() cut off is not read, though it stood on the TAPE once. */
    private static void textCutOff() {
        SeeSaws x = new SeeSaws();
        Due.tape(x, "counts 12 if 1=1");
        x.end(8);
        due("counts 1", x.law(), 0);
        x.force(0);
        x.claim(9, 0);
        due("1", x.asks(0, 0, 0), 1);
        Due.tape(x, "bars;");
        x.end(4);
        due("bars", x.law(), 1);
        Due.tape(x, "bars");
        x.end(3);
        due("bar", x.law(), -6);
        due("at 0", x.fault(), 0);
        Due.tape(x, "counts 1+2");
        x.end(9);
        due("counts 1+", x.law(), -6);
        due("the end", x.fault(), 9);
        Due.tape(x, "pass times 2");
        x.end(11);
        due("pass times", x.orders(), -6);
        due("the end", x.fault(), 11);
    }

    // ---- BROKEN ----

    /** "Beyond 1,000,000,000 either way ... a SUM, a TEST is BROKEN": just within, just beyond. */
    private static void beyondABillion() {
        so(BILLION + "=" + BILLION, 1);
        so(BILLION + "+0>999", 1);
        so(BILLION + "+1>0", 0);
        so("not " + BILLION + "+1>0", 0);
        so("0-" + BILLION + "<0", 1);
        so("0-" + BILLION + "-1<0", 0);
        so("not 0-" + BILLION + "-1<0", 0);
        so(BILLION + "-1+1>0", 1);
        counts("counts 8+0*[" + BILLION + "]", 8);
        counts("counts 8+0*[" + BILLION + "+1]", 7);
        counts("counts " + BILLION, 99);
        counts("counts 0-" + BILLION, 0);
    }

    /** A step beyond it breaks the whole, though a later one would come back; also where ints and longs would wrap. */
    private static void beyondABillionWithin() {
        counts("counts " + BILLION + "*2/2", 7);
        counts("counts " + BILLION + "+1-1", 7);
        counts("counts [" + BILLION + "]*[" + BILLION + "]", 7);
        counts("counts [" + BILLION + "]*[0-" + BILLION + "]", 7);
        counts("counts " + Due.repeated("1000", 50, "*"), 7);
        counts("counts " + BILLION + "*4+" + BILLION, 7);
        counts("counts " + Due.repeated("64", 11, "*") + "/64", 7);
        counts("counts 1 if 1=1 and " + BILLION + "*1000>0", 7);
    }

    /** "or divided by 0": by / and by %, of 0, too; by a SUM that comes to 0. */
    private static void dividedBy0() {
        for (String no : new String[] {"5/0", "5%0", "0/0", "0%0", "5/[3-3]", "5%[kind-2]", "0*[1/0]", "[1/0]*0",
            "1/0+1", "1/[1/0]", "1+2*3/0"}) {
            counts("counts " + no, 7);
            counts("counts 4;counts " + no, 4);
            so(no.replace("kind-2", "kind") + "=0", 0);
            so("not 0=" + no.replace("kind-2", "kind"), 0);
        }
    }

    /** "(/ cut towards 0, % what is left then)": of numbers below 0. */
    private static void dividedBelow0() {
        counts("counts 50+7/2", 53);
        counts("counts 50+[0-7]/2", 47);
        counts("counts 50+7/[0-2]", 47);
        counts("counts 50+[0-7]/[0-2]", 53);
        counts("counts 50+7%2", 51);
        counts("counts 50+[0-7]%2", 49);
        counts("counts 50+7%[0-2]", 51);
        counts("counts 50+[0-7]%[0-2]", 49);
        counts("counts 50+[0-1]/2", 50);
        counts("counts 50+1/2", 50);
        counts("counts 50+[0-8]%2", 50);
        counts("counts 50+0/5+0%5", 50);
        counts("counts 50+[0-" + BILLION + "]/[0-1]/1000/1000/100", 60);
    }

    /** "("or", "and" ask what stands behind only if it can still matter)". */
    private static void brokenBehind() {
        so("1=1 or 1/0=1", 1);
        so("1=2 or 1/0=1", 0);
        so("not (1=2 or 1/0=1)", 0);
        so("1=2 and 1/0=1", 0);
        so("not (1=2 and 1/0=1)", 1);
        so("1=1 and 1/0=1", 0);
        so("not (1=1 and 1/0=1)", 0);
        so("1=1 or 1/0=1 and 1/0=1", 1);
        so("1=2 and 1/0=1 or 1=1", 1);
        so("1=1 or 1=2 or 1/0=1", 1);
        so("1=2 or 1=1 or 1/0=1", 1);
        so("1=2 and 1=1 and 1/0=1 or 1=1", 1);
        so("not (1=1 and 1=2 and 1/0=1)", 1);
    }

    /** "<" | ">" | "=": below, the same, above; turned by "not". */
    private static void comparedAndTurned() {
        String[] signs = {"<", ">", "="};
        int[][] want = {{1, 0, 0}, {0, 1, 0}, {0, 0, 1}};
        String[] twos = {"4%s5", "5%s4", "5%s5"};
        for (int sign = 0; sign < 3; sign++) {
            for (int two = 0; two < 3; two++) {
                String test = twos[two].replace("%s", signs[sign]);
                so(test, want[sign][two]);
                so("not " + test, 1 - want[sign][two]);
                so("not not " + test, want[sign][two]);
            }
        }
        so("0-1<0", 1);
        so("0>0-1", 1);
        so("0-1=1", 0);
    }

    /** One that is asked first and is BROKEN breaks the whole, whatever stands behind. */
    private static void brokenAhead() {
        so("1/0=1 or 1=1", 0);
        so("not (1/0=1 or 1=1)", 0);
        so("1/0=1 and 1=2", 0);
        so("not (1/0=1 and 1=2)", 0);
        so("(1/0=1) or 1=1", 0);
        so("1=1 and 1/0=1 or 1=1", 0);
    }

    // ---- LAWS ----

    /** "LAWS, 6 at most"; promise 11: "-5 (ahead of reading it; the TAPE is empty then, too)". */
    private static void sixLaws() {
        SeeSaws x = Due.plank(1);
        for (int law = 0; law < 6; law++) {
            due("law " + law, Due.law(x, "counts " + (10 + law)), law);
        }
        due("a seventh", Due.law(x, "counts 1"), -5);
        due("the TAPE is empty", x.count(6), 0);
        due("no fault", x.fault(), NONE);
        due("one that can't be", Due.law(x, "nonsense"), -5);
        due("no fault of one that was not read", x.fault(), NONE);
        due("blanks", Due.law(x, "  "), -5);
        due("nothing", x.law(), -5);
        due("six", x.count(4), 6);
        for (int law = 0; law < 6; law++) {
            x.force(law);
            due("law " + law + " stays", x.asks(0, 0, 0), 10 + law);
        }
        due("orders are read all the same", Due.orders(x, "pass"), 1);
    }

    /** A FAULT that stood stays behind a law() that read nothing. */
    private static void faultBehindNoRoom() {
        SeeSaws x = new SeeSaws();
        for (int law = 0; law < 6; law++) {
            Due.law(x, "bars");
        }
        Due.orders(x, "pass x");
        due("of the orders", x.fault(), 5);
        due("no room", Due.law(x, "bars"), -5);
        due("still of the orders", x.fault(), 5);
    }

    /** "one is in FORCE (NONE at first: no CLAUSE)". */
    private static void noLawInForce() {
        SeeSaws x = Due.placed(30, 0, 1, 6);
        Due.law(x, "counts 2; sheds 3; bars");
        due("counts as it is heavy", x.of(0, 3) * 100 + x.of(1, 3), 3001);
        due("sheds 0", x.of(0, 4) + x.of(1, 4), 0);
        due("not barred", x.asks(0, 3, 1), 0);
        due("none is less heavy", x.pass(), 0);
    }

    /** "A CLAUSE HOLDS, if its "if" (if it has one) is so, and neither that nor its SUM is BROKEN." */
    private static void clausesThatHold() {
        counts("counts 5", 5);
        counts("counts 5 if 1=1", 5);
        counts("counts 5 if 1=2", 7);
        counts("counts 5 if 1/0=1", 7);
        counts("counts 5/0", 7);
        counts("counts 5/0 if 1=1", 7);
        so("1=1", 1);
        so("1=2", 0);
        so("1/0=1", 0);
    }

    /** "A CLAIM COUNTS there as 0 .. 99 ... (else the nearest)". */
    private static void counts0To99() {
        counts("counts 0-1", 0);
        counts("counts 0", 0);
        counts("counts 1", 1);
        counts("counts 98", 98);
        counts("counts 99", 99);
        counts("counts 100", 99);
        counts("counts 1000", 99);
    }

    /** "as the last "counts" that HOLDS tells ..., as it is HEAVY without". */
    private static void lastCountsThatHolds() {
        counts("counts 1;counts 2;counts 3", 3);
        counts("counts 1;counts 2;counts 3 if 1=2", 2);
        counts("counts 1;counts 2/0;counts 3 if 1/0=1", 1);
        counts("counts 1 if 1=2;counts 2/0", 7);
        counts("sheds 3;bars", 7);
        counts("counts 1;sheds 3;bars", 1);
        counts("counts 100;counts 1 if 1=2", 99);
    }

    private static void sheds(String law, int want) {
        SeeSaws x = Due.placed(30, 6);
        Due.forced(x, law);
        due("sheds by " + law, x.of(0, 4), want);
        due("pass by " + law, x.pass(), want == 0 ? 0 : 1);
        due("heavy by " + law, x.of(0, 0), 30 - want);
    }

    /** "it SHEDS 0 .. 9 a DAY where it is ON, 0 without". */
    private static void sheds0To9() {
        sheds("sheds 0-1", 0);
        sheds("sheds 0", 0);
        sheds("sheds 1", 1);
        sheds("sheds 9", 9);
        sheds("sheds 10", 9);
        sheds("sheds " + BILLION, 9);
        sheds("sheds 0-" + BILLION, 0);
        sheds("counts 5;bars", 0);
        sheds("sheds 3/0", 0);
        sheds("sheds 3 if 1=2", 0);
        sheds("sheds 3;sheds 4", 4);
        sheds("sheds 3;sheds 4 if place<6", 3);
    }

    /** "it is BARRED there, if "bars" HOLDS": any of them, wherever it stands. */
    private static void anyBarsThatHolds() {
        SeeSaws x = Due.plank(1);
        Due.forced(x, "bars if place=0;bars if place=6;bars if 1/0=1");
        for (int place = 0; place < 7; place++) {
            due("at " + place, x.asks(0, place, 1), place == 0 || place == 6 ? 1 : 0);
        }
        Due.forced(x, "bars;bars if 1=2");
        due("by the first", x.asks(0, 3, 1), 1);
        Due.forced(x, "counts 0");
        due("without one", x.asks(0, 3, 1), 0);
    }

    /** The words of a law at the ends of their ranges. */
    private static void wordsOfLawsAtTheirEnds() {
        SeeSaws x = Due.seven(30, 7);
        Due.law(x, "counts claim*10+place");
        Due.law(x, "counts heavy+day/20+mood+slack");
        Due.law(x, "counts kind*10+arm*arm");
        x.force(0);
        due("claim 0 at 0", x.asks(0, 0, 0), 0);
        due("claim 6 at 6", x.asks(6, 6, 0), 66);
        x.force(1);
        due("at first", x.asks(0, 0, 0), 30);
        x.terms(0, 999);
        x.terms(2, 9);
        x.terms(3, 9);
        due("at their ends", x.asks(0, 0, 0), 97);
        SeeSaws y = new SeeSaws();
        y.claim(1, 3);
        Due.forced(y, "counts kind*10+arm*arm");
        due("kind 3, arm -3", y.asks(0, 0, 0), 39);
        due("kind 3, arm 3", y.asks(0, 6, 0), 39);
        due("kind 3, arm 0", y.asks(0, 3, 0), 30);
    }

    // ---- ORDERS ----

    /** "each as often as TIMES tell (once without); each time its "if" is asked". */
    private static void timesAndIf() {
        run("pass", 1);
        run("pass times 20 if day<3", 3);
        run("pass times 20 if done<20", 20);
        run("pass times 20 if 1=2", 0);
        run("take 0 times 20 if on=1", 1);
        run(Due.repeated("pass times 20", 12, ";"), 240);
    }

    /** "(not run, if it is not so or BROKEN)": nor are its SUMS asked then. */
    private static void notRun() {
        run("pass if 1=2", 0);
        run("pass if 1/0=1", 0);
        run("pass if not 1/0=1", 0);
        run("take 1/0 if 1=2", 0);
        run("put 1/0 at 1/0 if 1/0=1", 0);
        run("take 9 if " + BILLION + "+1>0", 0);
        run("take 9 if 1=2;pass", 1);
    }

    /** "done: how many were run in this TEXT": 0 ahead of any, and again in the next TEXT. */
    private static void doneInThisText() {
        SeeSaws x = yard();
        due("0 at first", Due.orders(x, "pass if done=0;pass if done=1;pass if done=1;pass if done=2"), 3);
        due("0 again", Due.orders(x, "pass if done=0"), 1);
    }

    /** "latest: what the latest put in it told (-1: none)": not in another TEXT, not by take or pad. */
    private static void latestInThisText() {
        SeeSaws x = yard();
        due("none at first", Due.orders(x, "put 1 at 6 if latest=0-1;pass if latest=6;take 1;pass if latest=6"), 4);
        due("none in the next TEXT", Due.orders(x, "pass if latest=0-1"), 1);
        due("either way: left by 15", Due.orders(x, "pad 0 to 5;put 0 at 0;pass if latest=15"), 3);
        due("one that told 0", Due.orders(x, "take 0;put 0 at 3;pass if latest=0"), 3);
        x.put(1, 0);
        due("by put() itself, not in this TEXT", Due.orders(x, "pass if latest=0-1"), 1);
    }

    /** "tilt: TILT (below 0, if the left side is down)". */
    private static void tiltInOrders() {
        run("pass if tilt=0-6", 1);
        run("put 0 at 5;pass if tilt=6", 2);
        run("take 0;pass if tilt=0", 2);
        run("put 0 at 3;pass if tilt=0", 2);
    }

    /** "on: how many CLAIMS are": none, all seven. */
    private static void onInOrders() {
        SeeSaws x = Due.seven(1, 7);
        due("none, all", Due.orders(x, "pass if on=0;put done-1 at 0 times 7;pass if on=7"), 9);
    }

    /** "at: the PLACE of a CLAIM (-1: OFF); heavy, at: -1 without such a CLAIM". */
    private static void heavyAndAtWithoutAClaim() {
        run("pass if at 0=1;pass if at 1=0-1;pass if heavy 0=3;pass if heavy 1=4", 4);
        run("pass if at 2=0-1;pass if heavy 2=0-1;pass if at 6=0-1;pass if heavy 6=0-1", 4);
        SeeSaws x = Due.seven(30, 6);
        due("the seventh", Due.orders(x, "pass if heavy 6=30;pass if at 6=6"), 2);
    }

    /** "One that can't be (a BROKEN SUM, ...) ends it: all is as it was ahead of it." */
    private static void brokenSumStops() {
        stop("take 1/0", 0);
        stop("pass;put 1/0 at 0", 1);
        stop("pass;put 1 at 1/0", 1);
        stop("pad 1/0 to 5", 0);
        stop("pad 1 to 5%0", 0);
        stop("take " + BILLION + "+1", 0);
    }

    /** "(.. as put(), take(), pad(), pass() are REFUSED)": by each of their numbers, just beyond each range. */
    private static void refusedOrderStops() {
        stop("put 1 at 0-1", 0);
        stop("put 1 at 7", 0);
        stop("put 0-1 at 0", 0);
        stop("put 2 at 0", 0);
        stop("put 0 at 1", 0);
        stop("put " + BILLION + " at " + BILLION, 0);
        stop("take 0-1", 0);
        stop("take 2", 0);
        stop("take 1", 0);
        stop("pad 0 to 0", 0);
        stop("pad 0 to 31", 0);
        stop("pad 0 to 3", 0);
        stop("pad 2 to 5", 0);
        stop("pad 0-1 to 5", 0);
        run("put 1 at 0;put 1 at 6;pad 0 to 1;pad 0 to 30", 4);
    }

    /** The same for pass at DAY 999, and for a PLACE that is BARRED. */
    private static void refusedByDayAndLaw() {
        SeeSaws x = yard();
        x.terms(0, 998);
        due("two days", Due.orders(x, "pass times 2"), -3);
        due("as ahead", x.count(13), 998);
        due("one day", Due.orders(x, "pass"), 1);
        due("no more", Due.orders(x, "pass"), -3);
        Due.forced(x, "bars if place=6");
        due("barred", Due.orders(x, "put 1 at 5;put 1 at 6"), -3);
        due("the second", x.stopped(), 1);
        due("OFF", x.of(1, 2), NONE);
    }

    /** Promise 14: "Which CLAUSE of the latest orders() could not be." The first, the twelfth, at its last time. */
    private static void stoppedAtEachEnd() {
        stop("take 1;" + Due.repeated("pass", 11, ";"), 0);
        stop(Due.repeated("pass", 11, ";") + ";take 1", 11);
        stop(Due.repeated("pass times 20", 11, ";") + ";take 1 times 20 if done=220", 11);
        stop("put 1 at done times 8", 0);
        run("put 1 at done times 7", 7);
    }

    /** Promise 14: "NONE." Ahead of any; behind orders that could be, or that were not read to the end. */
    private static void stoppedNowhere() {
        SeeSaws x = yard();
        due("ahead of any", x.stopped(), NONE);
        Due.orders(x, "take 1");
        due("stopped", x.stopped(), 0);
        Due.law(x, "bars x");
        due("law() leaves it", x.stopped(), 0);
        Due.orders(x, "pass");
        due("could be", x.stopped(), NONE);
        Due.orders(x, "pass;take 1");
        due("stopped", x.stopped(), 1);
        Due.orders(x, "pass;");
        due("a FAULT", x.stopped(), NONE);
        Due.orders(x, "pass;take 1");
        x.orders();
        due("nothing on the TAPE", x.stopped(), NONE);
    }

    /** Promise 13: "of the latest law(), orders() that read a TEXT: its place; NONE without". */
    private static void faultOfTheLatest() {
        SeeSaws x = yard();
        due("ahead of any", x.fault(), NONE);
        Due.law(x, "bars x");
        due("a law's", x.fault(), 5);
        Due.tape(x, "\0");
        x.row();
        due("row() leaves it", x.fault(), 5);
        Due.orders(x, "take 1");
        due("orders that stop have none", x.fault(), NONE);
        Due.orders(x, "x");
        due("theirs", x.fault(), 0);
        Due.law(x, "bars");
        due("a good law has none", x.fault(), NONE);
        x.orders();
        due("the end of nothing", x.fault(), 0);
    }

    /** Promises 11, 12: "the TAPE is empty then", whatever comes of it. */
    private static void tapeIsEmptyThen() {
        SeeSaws x = yard();
        for (String text : new String[] {"bars", "bars x", " "}) {
            Due.law(x, text);
            due("behind law " + text, x.count(6), 0);
        }
        for (String text : new String[] {"pass", "take 1", "pass x", " "}) {
            Due.orders(x, text);
            due("behind orders " + text, x.count(6), 0);
        }
    }

    /** Promise 12: "how many were run": none, which is no refusal. */
    private static void noneWasRun() {
        SeeSaws x = yard();
        due("none", Due.orders(x, "take 0 if 1=2"), 0);
        due("not refused", x.status(), 0);
        due("nothing more to undo", x.count(5), 1);
    }

    public static void main(String[] args) throws ReflectiveOperationException {
        Due.runAll(EdgesOfTextsTest.class);
    }
}
