/** Promises 7 to 14: the tape, rows, laws and orders, and where a text can't go on. */
public final class TextsTest {
    private static final int NONE = SeeSaws.NONE;

    private static void due(String call, long got, long want) {
        Due.due(call, got, want);
    }

    private static void badLaw(String text, int fault) {
        SeeSaws x = new SeeSaws();
        due("law " + text, Due.law(x, text), -6);
        due("its fault: " + text, x.fault(), fault);
        due("no law is kept: " + text, x.count(4), 0);
    }

    private static void goodLaw(String text) {
        SeeSaws x = new SeeSaws();
        due("law " + text, Due.law(x, text), 0);
        due("no fault: " + text, x.fault(), NONE);
    }

    private static void badOrders(String text, int fault) {
        SeeSaws x = Due.plank(3);
        due("orders " + text, Due.orders(x, text), -6);
        due("their fault: " + text, x.fault(), fault);
        due("none stopped: " + text, x.stopped(), NONE);
    }

    /** What a claim that is heavy 7, of kind 2, counts as at place 5 by a law. */
    private static void counts(String law, int want) {
        SeeSaws x = new SeeSaws();
        x.claim(1, 0);
        x.claim(7, 2);
        x.terms(0, 12);
        x.terms(2, 3);
        x.terms(3, 4);
        Due.forced(x, law);
        due("counts by " + law, x.asks(1, 5, 0), want);
    }

    private static void promise7Feed() {
        SeeSaws x = new SeeSaws();
        for (int n = 20; n <= 400; n += 20) {
            due("7: feed", x.feed(0x01020304, -1, 0, Integer.MIN_VALUE, 5), n);
        }
        due("7: full", x.feed(1, 2, 3, 4, 5), NONE);
        due("7: it stays", x.count(6), 400);
        x.end(381);
        due("7: still no room", x.feed(1, 2, 3, 4, 5), NONE);
        x.end(380);
        due("7: room", x.feed(1, 2, 3, 4, 5), 400);
        due("7: status is left", x.status(), 0);
        x.end(4);
        due("7: highest first", x.row(), 1);
        due("7: 1, 2", x.of(0, 0) * 10 + x.of(0, 1), 12);
        due("7: 3, 4 can't be", x.sawdust() + x.count(0), 2);
    }

    private static void promise8End() {
        SeeSaws x = new SeeSaws();
        due("8: 0 of none", x.end(0), 0);
        due("8: more than there are", x.end(1), NONE);
        x.feed(0x05010601, 0x07010801, 0, 0, 0);
        due("8: below 0", x.end(-1), NONE);
        due("8: 21", x.end(21), NONE);
        due("8: all", x.end(20), 20);
        due("8: 6", x.end(6), 6);
        due("8: no way back", x.end(7), NONE);
        due("8: the first ones stay", x.row(), 3);
        due("8: the last of them", x.of(2, 0), 7);
    }

    private static void promise9And10Row() {
        SeeSaws x = new SeeSaws();
        due("9: empty", x.row(), -6);
        due("10: ahead of any", x.sawdust(), 0);
        Due.tape(x, "\5\0\37\0\0\1\36\3\1\4\u00ff\0\7");
        due("9: two came", x.row(), 2);
        due("10: five did not", x.sawdust(), 5);
        due("9: the tape is empty", x.count(6), 0);
        due("9: empty again", x.row(), -6);
        due("10: of the latest not refused", x.sawdust(), 5);
        due("9: the second", x.of(1, 0) * 10 + x.of(1, 1), 303);
        Due.tape(x, "\1\0\1\0\1\0\1\0\1\0\1\0\1\0");
        due("9: five more", x.row(), 5);
        due("10: no room for two", x.sawdust(), 2);
        Due.tape(x, "\1");
        due("9: half of one", x.row(), 0);
        due("10: half of one", x.sawdust(), 1);
    }

    private static void promise11Law() {
        SeeSaws x = Due.plank(5);
        due("11: empty", x.law(), -6);
        due("13: empty", x.fault(), 0);
        due("11: first", Due.law(x, "counts 2"), 0);
        due("13: none", x.fault(), NONE);
        due("11: the tape is empty", x.count(6), 0);
        due("11: bad", Due.law(x, "counts x"), -6);
        due("11: the tape is empty then, too", x.count(6), 0);
        for (int n = 1; n < 6; n++) {
            due("11: law " + n, Due.law(x, "bars"), n);
        }
        Due.law(x, "");
        due("11: no room, ahead of reading", Due.law(x, "nonsense"), -5);
        due("11: the tape is empty then, too", x.count(6), 0);
        due("13: it read no text", x.fault(), NONE);
        due("11: count", x.count(4), 6);
    }

    private static void whatLawsTell() {
        counts("counts 1; counts 2; counts 3 if heavy < 7", 2);
        counts("counts 0 - 5", 0);
        counts("counts 1000", 99);
        counts("bars", 7);
        counts("counts claim*10+kind", 12);
        counts("counts place*10 + arm", 52);
        counts("counts day + mood * slack", 24);
        counts("counts 2 + 3 * 4 - 1", 13);
        counts("counts [2 + 3] * 4", 20);
        counts("counts 20 - 3 - 2", 15);
        counts("counts 40 / 4 / 3", 3);
        counts("counts 17 % 7 * 2", 6);
        counts("counts 50 + [0 - 7] / 2", 47);
        counts("counts 50 + [0 - 7] % 2", 49);
        counts("counts 50 + 7 % [0 - 2]", 51);
        counts("counts 5 / 0", 7);
        counts("counts 5; counts 5 % 0", 5);
        counts("counts 1000*1000*1000 / 1000 / 1000 / 100", 10);
        counts("counts [1000*1000*1000+1] % 2", 7);
        counts("counts [0-1000*1000*1000-1] % 2", 7);
        counts("counts 8 + 0*[0-1000*1000*1000]", 8);
        counts("counts 1 if 1/0 = 1", 7);
        counts("counts 1 if not 1/0 = 1", 7);
        counts("counts 1 if 1 = 1 or 1/0 = 1", 1);
        counts("counts 1 if 1/0 = 1 or 1 = 1", 7);
        counts("counts 1 if 1 = 2 or 1/0 = 1", 7);
        counts("counts 1 if not (1 = 2 and 1/0 = 1)", 1);
        counts("counts 1 if not (1 = 1 and 1/0 = 1)", 7);
        counts("counts 1 if 1 = 1 or 1 = 2 and 1 = 2", 1);
        counts("counts 1 if (1 = 1 or 1 = 2) and 1 = 2", 7);
        counts("counts 1 if 1 = 2 and 1 = 1 or 1 = 1", 1);
        counts("counts 1 if not 1 = 2 and 1 = 2", 7);
        counts("counts 1 if not not not 1 = 2", 1);
        counts("counts 1 if not (not 1 = 2)", 7);
        counts("counts 1 if 2 > 1 and 1 < 2 and 2 = 2", 1);
        counts("counts 1 if 2 > 2", 7);
        counts("counts 1 if 2 < 2", 7);
        counts("counts 1 if [[1+1]] = 0002", 1);
    }

    private static void promise13FaultOfLaws() {
        badLaw("   ", 3);
        badLaw("counts", 6);
        badLaw("counts  ", 8);
        badLaw("Counts 1", 0);
        badLaw("countsx 1", 0);
        badLaw("barsz", 0);
        badLaw("bars{", 4);
        badLaw(" put 1 at 2", 1);
        badLaw("counts 1 1", 9);
        badLaw("counts 1;", 9);
        badLaw("counts 1; ", 10);
        badLaw(";", 0);
        badLaw("counts 1 if", 11);
        badLaw("counts 1 if (1", 14);
        badLaw("counts 1 if (1 = 1", 18);
        badLaw("counts 1 if (1 = 1]", 18);
        badLaw("counts [1)", 9);
        badLaw("counts 1 if 1", 13);
        badLaw("counts 1 if 1 = 2 = 3", 18);
        badLaw("counts 1 if [1 = 1]", 15);
        badLaw("counts 1 if (1 + 1) = 2", 18);
        badLaw("counts 1001", 7);
        badLaw("counts 1+99999999999999999999", 9);
        badLaw("counts -1", 7);
        badLaw("counts 1 + + 1", 11);
        badLaw("counts tilt", 7);
        badLaw("counts done", 7);
        badLaw("counts 1 times 2", 9);
        badLaw("counts 1\t", 8);
        badLaw("bars 1", 5);
        badLaw("bars if not", 11);
        badLaw("bars if 1 = 1 and", 17);
        badLaw("bars if 1 = 1 xor 1 = 1", 14);
        badLaw("bars \u00e9", 5);
        badLaw("bars if 1 < > 2", 12);
        goodLaw("  counts1000if not(claim<1)or[2]=kind ;bars  ");
        goodLaw("counts 0000000000000000000000001000");
        goodLaw("counts heavy;sheds kind;bars if place=arm+day-mood*slack");
    }

    private static void limits() {
        goodLaw(Due.repeated("bars", 12, ";"));
        badLaw(Due.repeated("bars", 13, ";"), 60);
        badLaw(Due.repeated("bars", 12, ";") + "; nonsense", 61);
        badLaw(Due.repeated("bars", 12, ";") + "; ", 61);
        badLaw(Due.repeated("bars", 12, ";") + " x;bars", 60);
        goodLaw("counts " + Due.repeated("1", 50, "+"));
        badLaw("counts " + Due.repeated("1", 51, "+"), 107);
        badLaw("counts " + Due.repeated("1", 50, "+") + ";counts arm", 114);
        goodLaw("counts " + Due.repeated("1", 49, "+") + ";counts arm");
        goodLaw("counts " + Due.repeated("[", 8, "") + "1" + Due.repeated("]", 8, ""));
        badLaw("counts " + Due.repeated("[", 9, "") + "1" + Due.repeated("]", 9, ""), 15);
        goodLaw("bars if " + Due.repeated("(", 8, "") + "1=1" + Due.repeated(")", 8, ""));
        badLaw("bars if " + Due.repeated("(", 4, "") + Due.repeated("[", 5, ""), 16);
        goodLaw("bars if " + Due.repeated("(", 4, "") + Due.repeated("[", 4, "") + "1" + Due.repeated("]", 4, "") + "=1"
                + Due.repeated(")", 4, ""));
        goodLaw("counts " + Due.repeated("[[[[[[[[1]]]]]]]]", 9, "+"));
        goodLaw("bars if " + Due.repeated("not", 90, " ") + " 1=1");
        badLaw("bars if " + Due.repeated("not", 98, " "), 399);
        badLaw(Due.repeated("(", 400, ""), 0);
        badLaw("counts " + Due.repeated("[", 393, ""), 15);
        SeeSaws x = Due.plank(3);
        String fifty = "put " + Due.repeated("at 0", 48, "+") + "+48 at 1 times 1";
        due("50 parts, C and TIMES aside", Due.orders(x, fifty), 1);
        badOrders("put " + Due.repeated("at 0", 50, "+") + " at 1", 257);
    }

    private static void promise12Orders() {
        SeeSaws x = Due.plank(5, 4);
        due("12: empty", x.orders(), -6);
        due("12: blanks", Due.orders(x, "  "), -6);
        due("13: their end", x.fault(), 2);
        due("12: put, take, pad, pass", Due.orders(x, "put 0 at 1; pad 0 to 6; pass; take 0"), 4);
        due("12: the tape is empty", x.count(6), 0);
        due("12: padded", x.of(0, 0), 6);
        due("12: DAY", x.count(13), 1);
        due("12: none is so", Due.orders(x, "pass if 1 = 2; take 9 if 1/0 = 1"), 0);
        due("12: times", Due.orders(x, "pass times 20; pass times 3 if day < 22"), 21);
        due("12: DAY", x.count(13), 22);
        due("12: done", Due.orders(x, "pass times 20 if done < 7; put 0 at done - 1"), 8);
        due("12: at 6", x.of(0, 2), 6);
        due("12: latest, -1 ahead of any", Due.orders(x, "put 1 at latest + 1; put 1 at latest / 3 if latest = 6"), 2);
        due("12: tilt 18 less 12, over 3", x.of(1, 2), 2);
        due("12: tilt, below 0 to the left", Due.orders(x, "take 0; pad 1 to 0 - tilt * 2; put 0 at on + 1"), 3);
        due("12: 4 times 2", x.of(1, 0), 8);
        due("12: on", x.of(0, 2), 2);
        due("12: heavy, at", Due.orders(x, "pad 0 to heavy 1 + at 1; put 0 at 1 + at 5 if heavy 6 = 0 - 1"), 2);
        due("12: heavy 1, at 1", x.of(0, 0), 10);
        due("12: at of no claim", x.of(0, 2), 0);
        due("12: at, OFF", Due.orders(x, "take 0; pass if at 0 = 0 - 1"), 2);
    }

    private static void promise14Stopped() {
        SeeSaws x = Due.plank(5, 4);
        x.put(0, 1);
        due("12: can't be", Due.orders(x, "pass; pad 1 to 9; take 0; take 0; pass"), -3);
        due("14: the fourth", x.stopped(), 3);
        due("12: all as ahead", x.of(0, 2) * 100 + x.of(1, 0) * 10 + x.count(13), 140);
        due("12: nothing more to undo", x.count(5), 1);
        due("12: the call alone is refused", x.count(8) * 10 + x.count(9), 1);
        due("13: no fault", x.fault(), NONE);
        due("12: broken", Due.orders(x, "pass; put 1/0 at 1"), -3);
        due("14: the second", x.stopped(), 1);
        due("12: broken behind", Due.orders(x, "put 1 at 1%0"), -3);
        due("14: the first", x.stopped(), 0);
        due("12: a place that can't be", Due.orders(x, "put 1 at 7"), -3);
        due("12: it can't be so heavy", Due.orders(x, "pad 1 to 31"), -3);
        due("12: it is so heavy", Due.orders(x, "pad 1 to 4"), -3);
        due("12: no such claim", Due.orders(x, "take 2"), -3);
        due("12: at its second time", Due.orders(x, "put 1 at 5 times 2"), -3);
        due("12: OFF as ahead", x.of(1, 2), NONE);
        due("12: one can be", Due.orders(x, "pass"), 1);
        due("14: none", x.stopped(), NONE);
        Due.orders(x, "take 5");
        due("14: the first", x.stopped(), 0);
        Due.law(x, "bars");
        due("14: law() leaves it", x.stopped(), 0);
        x.force(0);
        due("12: barred", Due.orders(x, "take 0; put 0 at 1"), -3);
        due("14: the second", x.stopped(), 1);
        x.terms(0, 999);
        due("12: at the last DAY", Due.orders(x, "pass"), -3);
        Due.orders(x, "nonsense");
        due("14: none behind -6", x.stopped(), NONE);
    }

    private static void promise13FaultOfOrders() {
        badOrders("put 0", 5);
        badOrders("put 0 at", 8);
        badOrders("put at 0", 8);
        badOrders("put at 0 at", 11);
        badOrders("put 0 to 1", 6);
        badOrders("pad 0 at 1", 6);
        badOrders("take", 4);
        badOrders("take 0 at 1", 7);
        badOrders("pass 1", 5);
        badOrders("pass times", 10);
        badOrders("pass times 0", 11);
        badOrders("pass times 21", 11);
        badOrders("pass times day", 11);
        badOrders("pass times [1]", 11);
        badOrders("pass if 1 = 1 times 2", 14);
        badOrders("take heavy", 10);
        badOrders("take heavy 7", 11);
        badOrders("take heavy [1]", 11);
        badOrders("take at day", 8);
        badOrders("take claim", 5);
        badOrders("counts 1", 0);
        badOrders("pass;;pass", 5);
        badOrders(Due.repeated("pass", 13, ";"), 60);
        SeeSaws x = Due.plank(3);
        due("12: without blanks", Due.orders(x, "put 0at 5times 01if at 0<0;pass times 020"), 21);
        due("12: twelve", Due.orders(x, Due.repeated("pass", 12, ";")), 12);
    }

    public static void main(String[] args) {
        promise7Feed();
        promise8End();
        promise9And10Row();
        promise11Law();
        whatLawsTell();
        promise13FaultOfLaws();
        limits();
        promise12Orders();
        promise14Stopped();
        promise13FaultOfOrders();
        Due.end();
    }
}
