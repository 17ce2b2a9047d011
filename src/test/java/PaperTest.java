/** Promises 21 to 36: all that is asked on paper. */
public final class PaperTest {
    private static final int NONE = SeeSaws.NONE;

    private static void due(String call, long got, long want) {
        Due.due(call, got, want);
    }

    private static void promise21Settle() {
        SeeSaws x = Due.plank(1);
        due("21: in the middle alone", x.settle(NONE), 1);
        due("21: there", x.settle(0), 3);
        due("21: claim 1", x.settle(1), NONE);
        due("21: claim -2", x.settle(-2), NONE);
        x.terms(3, 1);
        due("21: within slack", x.settle(NONE), 3);
        due("21: the first of them", x.settle(0), 2);
        due("21: nothing is put", x.count(1), 0);
        Due.forced(x, "bars if place < 4");
        due("21: where it is not barred", x.settle(NONE) * 10 + x.settle(0), 14);
        Due.forced(x, "bars if place < 5");
        due("21: nowhere", x.settle(NONE), NONE);
        due("21: nowhere", x.settle(0), NONE);
        x.force(NONE);
        x.put(0, 3);
        Due.forced(x, "bars");
        due("21: one that is ON stays, barred or not", x.settle(NONE) * 10 + x.settle(0), 13);
        x = Due.plank(2, 2);
        due("21: seven twos", x.settle(NONE), 7);
        due("21: the first row", x.settle(0) * 10 + x.settle(1), 6);
        x = Due.placed(4, 0, 5, 7, 3, 7);
        due("21: 12 by 5 and 3", x.settle(NONE), 1);
        due("21: where they are", x.settle(0) * 100 + x.settle(1) * 10 + x.settle(2), 62);
        x = Due.placed(5, 0);
        due("21: all ON, not level", x.settle(NONE), NONE);
        x = Due.plank(1, 1, 1, 1, 1, 1, 1);
        due("21: seven claims", x.settle(NONE), 60691);
        due("21: their first row", x.settle(0) + x.settle(1) + x.settle(2), 0);
        due("21: the fourth in the middle", x.settle(3), 3);
        due("21: the last ones", x.settle(4) + x.settle(5) + x.settle(6), 18);
        Due.forced(x, "counts 0");
        due("21: all rows", x.settle(NONE), 7 * 7 * 7 * 7 * 7 * 7 * 7);
        Due.forced(x, "counts 99; counts 98 if claim = 6");
        due("21: the heaviest", x.settle(6), 3);
    }

    private static void promise22Least() {
        SeeSaws x = Due.placed(5, 0, 2, 7);
        due("22: 15 less 6", x.least(NONE), 9);
        due("22: it stays", x.least(0), 0);
        due("22: far out", x.least(1), 6);
        due("22: claim 2", x.least(2), NONE);
        due("22: claim -2", x.least(-2), NONE);
        Due.forced(x, "bars if place = 6");
        due("22: 15 less 4", x.least(NONE) * 10 + x.least(1), 115);
        Due.forced(x, "bars");
        due("22: no row", x.least(NONE), NONE);
        due("22: no row", x.least(1), NONE);
        x = Due.placed(1, 4, 2, 7);
        due("22: either way alike", x.least(NONE), 1);
        due("22: the first of them", x.least(1), 2);
        x.terms(3, 9);
        due("22: level or not", x.least(NONE) * 10 + x.least(1), 12);
        x = Due.placed(5, 0);
        due("22: all ON", x.least(NONE) * 10 + x.least(0), 150);
        due("22: bare", new SeeSaws().least(NONE), 0);
    }

    private static void promise23Moved() {
        SeeSaws x = Due.placed(2, 0, 2, 1, 2, 2, 9, 7);
        due("23: one", x.moved(NONE), 1);
        due("23: row", x.moved(0) * 1000 + x.moved(1) * 100 + x.moved(2) * 10 + x.moved(3), 6127);
        due("23: claim 4", x.moved(4), NONE);
        due("23: claim -2", x.moved(-2), NONE);
        due("23: nothing moves", x.of(0, 2), 0);
        Due.forced(x, "bars if place = 6");
        due("23: two", x.moved(NONE), 2);
        due("23: the first row of two", x.moved(0) * 1000 + x.moved(1) * 100 + x.moved(2) * 10 + x.moved(3), 457);
        Due.forced(x, "bars");
        due("23: it can't be", x.moved(NONE), NONE);
        due("23: it can't be", x.moved(0), NONE);
        x = Due.placed(2, 0, 2, 6, 3, 7);
        Due.forced(x, "bars");
        due("23: level now, barred or not", x.moved(NONE), 0);
        due("23: as it is", x.moved(0) * 100 + x.moved(1) * 10 + x.moved(2), 67);
        due("23: bare", new SeeSaws().moved(NONE), 0);
        x = Due.placed(1, 0, 1, 0, 1, 0, 1, 0, 1, 0, 1, 0, 1, 0);
        due("23: seven on the left", x.moved(NONE), 4);
        Due.forced(x, "bars if not place = 3");
        due("23: all seven to the middle", x.moved(NONE) * 10 + x.moved(6), 73);
    }

    private static void promise24Alone() {
        SeeSaws x = Due.placed(3, 0, 6, 7, 1, 7, 3, 7);
        due("24: the one as heavy", x.alone(), 8);
        x.terms(3, 3);
        due("24: within slack", x.alone(), 10);
        Due.forced(x, "bars if place > 4");
        due("24: not where barred", x.alone(), 2);
        x = Due.plank(4, 5);
        due("24: level already", x.alone(), 3);
        Due.forced(x, "bars if place = 3 and claim = 1");
        due("24: not in the middle", x.alone(), 1);
        due("24: bare", new SeeSaws().alone(), 0);
    }

    private static void promise25Exchanged() {
        SeeSaws x = Due.placed(5, 0, 2, 5);
        due("25: the twos", x.exchanged(0), 1);
        due("25: tilt then", x.exchanged(1), 4);
        due("25: what 2", x.exchanged(2), NONE);
        due("25: what -1", x.exchanged(-1), NONE);
        due("25: nothing moves", x.of(0, 2), 0);
        Due.forced(x, "bars if claim = 0 and place = 5");
        due("25: barred there", x.exchanged(0), NONE);
        Due.forced(x, "bars if claim = 1 and place = 0");
        due("25: barred there", x.exchanged(1), NONE);
        Due.forced(x, "bars if claim = 0 and place = 0");
        due("25: barred where it is, no matter", x.exchanged(0), 1);
        x = Due.placed(2, 0, 2, 6, 5, 3);
        due("25: none is less", x.exchanged(0), NONE);
        x = Due.placed(1, 7, 5, 0, 2, 4, 2, 4);
        due("25: the lowest of twos alike", x.exchanged(0), 12);
        x = Due.placed(5, 0, 2, 7);
        due("25: OFF", x.exchanged(0), NONE);
    }

    private static void promise26Shares() {
        due("26: no claims", new SeeSaws().shares(0), NONE);
        SeeSaws x = Due.plank(4);
        due("26: one claim", x.shares(0) * 100 + x.shares(1) * 10 + x.shares(2), 411);
        x = Due.plank(1, 1, 1, 1);
        due("26: alike", x.shares(0), 0);
        due("26: the lowest", x.shares(1), 3);
        due("26: ways", x.shares(2), 3);
        due("26: what 3", x.shares(3), NONE);
        due("26: what -1", x.shares(-1), NONE);
        x = Due.plank(2, 30, 27);
        due("26: by how much", x.shares(0), 1);
        due("26: share", x.shares(1), 5);
        x.put(1, 4);
        Due.forced(x, "counts 0");
        due("26: ON or OFF, HEAVY alone", x.shares(0), 1);
    }

    private static void promise27Off() {
        due("27: none is ON", new SeeSaws().off(NONE), 1);
        due("27: none is ON", new SeeSaws().off(0), NONE);
        SeeSaws x = Due.placed(1, 2, 1, 4);
        due("27: none", x.off(NONE), 0);
        due("27: none", x.off(0), NONE);
        x.terms(3, 1);
        due("27: two", x.off(NONE), 2);
        due("27: first", x.off(0) * 10 + x.off(1), 1);
        due("27: behind the last", x.off(2), NONE);
        due("27: -2", x.off(-2), NONE);
        x = Due.placed(2, 2, 9, 7, 1, 4, 1, 4);
        x.terms(3, 1);
        due("27: two of six", x.off(NONE), 2);
        due("27: row", x.off(0) * 100 + x.off(1) * 10 + x.off(2), 203);
        due("27: three alone", x.off(3), NONE);
        x = Due.placed(1, 4, 2, 4, 2, 2);
        x.terms(3, 1);
        due("27: claim 0 can come off first, but then no other", x.off(NONE), 1);
        due("27: the one order", x.off(0) * 100 + x.off(1) * 10 + x.off(2), 120);
        x = Due.placed(9, 0);
        due("27: it need not be level ahead", x.off(NONE) * 10 + x.off(0), 10);
        x = Due.placed(1, 3, 1, 3, 1, 3, 1, 3, 1, 3, 1, 3, 1, 3);
        due("27: all orders of seven", x.off(NONE), 5040);
        due("27: the last of the first", x.off(6), 6);
        due("27: all stay", x.count(1), 7);
    }

    private static void promise28ByTurns() {
        due("28: none is ON", new SeeSaws().byTurns(0), 0);
        due("28: none is ON", new SeeSaws().byTurns(1), NONE);
        SeeSaws x = Due.placed(2, 2, 1, 4, 1, 4);
        x.terms(3, 1);
        due("28: wins", x.byTurns(0), 1);
        due("28: by", x.byTurns(1), 1);
        due("28: what 2", x.byTurns(2), NONE);
        due("28: what -1", x.byTurns(-1), NONE);
        x = Due.placed(1, 3, 1, 3);
        due("28: two in the middle", x.byTurns(0), 0);
        due("28: two in the middle", x.byTurns(1), NONE);
        x = Due.placed(1, 7, 1, 3);
        due("28: one", x.byTurns(0) * 10 + x.byTurns(1), 11);
    }

    private static void promise29And30Weighed() {
        SeeSaws x = Due.plank(3, 3, 3);
        due("29: -1", x.weighed(-1, 0, 0), -1);
        due("29: 128", x.weighed(0, 128, 0), -1);
        due("29: on both sides", x.weighed(3, 6, 0), -1);
        due("29: came 3", x.weighed(1, 2, 3), -1);
        due("29: came -1", x.weighed(1, 2, -1), -1);
        due("29: -1 ahead of -2", x.weighed(8, 8, 0), -1);
        due("29: claim 3", x.weighed(1, 8, 0), -2);
        due("29: status", x.status(), -2);
        due("29: none on either side", x.weighed(0, 0, 0), 1);
        for (int n = 2; n <= 6; n++) {
            due("29: " + n, x.weighed(1, 6, 2), n);
        }
        due("29: no room", x.weighed(1, 2, 0), -5);
        due("29: -2 ahead of -5", x.weighed(64, 2, 0), -2);
        due("29: count", x.count(3), 6);
        due("30: forget", x.forget(), 6);
        due("30: again", x.forget(), 0);
        due("30: count", x.count(3), 0);
    }

    private static void promise31CanBe() {
        SeeSaws x = Due.plank(3, 3);
        due("31: all", x.canBe(), 16384 + 15);
        x.weighed(1, 2, 1);
        due("31: 0 more or 1 less", x.canBe(), 9);
        x.weighed(2, 1, 2);
        due("31: as well", x.canBe(), 9);
        x.weighed(1, 2, 0);
        due("31: it can't be", x.canBe(), 0);
        due("32: it can't be", x.weigh(0) + x.weigh(1) + x.weigh(2), -3);
        x = Due.plank(3, 2);
        x.weighed(1, 2, 1);
        due("31: or none", x.canBe(), 16384 + 9);
        x.pad(1, 3);
        due("31: HEAVY as now", x.canBe(), 9);
        x = Due.plank(1, 1, 1, 1, 1, 1, 1);
        due("31: seven", x.canBe(), 32767);
        Due.forced(x, "counts 50");
        x.weighed(64, 0, 0);
        due("31: the last is one less, HEAVY counts", x.canBe(), 1 << 13);
    }

    private static void promise32Weigh() {
        SeeSaws x = Due.plank(3, 3, 3);
        due("32: left", x.weigh(0), 1);
        due("32: right", x.weigh(1), 2);
        due("32: at most", x.weigh(2), 3);
        due("32: what 3", x.weigh(3), NONE);
        due("32: what -1", x.weigh(-1), NONE);
        x.weighed(1, 2, 0);
        due("32: then the third against the first", x.weigh(0) * 100 + x.weigh(1) * 10 + x.weigh(2), 141);
        due("32: nothing was weighed by that", x.count(3), 1);
    }

    private static void promise33Few() {
        SeeSaws x = new SeeSaws();
        due("33: k 0", x.few(0, 5), NONE);
        due("33: k 21", x.few(21, 5), NONE);
        due("33: n -1", x.few(1, -1), NONE);
        due("33: n 100", x.few(1, 100), NONE);
        due("33: two birds", x.few(1, 2), 810000000000L);
        due("33: one of two", x.few(2, 2), 990000000000L);
        due("33: all", x.few(3, 2), 1000000000000L);
        x.terms(1, 3);
        due("33: 7 by 7", x.few(1, 12), 13841287201L);
        due("33: cut", x.few(1, 13), 9688901040L);
        due("33: cut again", x.few(1, 14), 6782230728L);
        x.terms(1, 10);
        due("33: all alight", x.few(20, 19), 1000000000000L);
        due("33: all alight", x.few(19, 19), 0);
        x.terms(1, 0);
        due("33: none alights", x.few(1, 99), 1000000000000L);
    }

    private static void promise34Compare() {
        SeeSaws x = Due.placed(5, 0, 4, 4);
        Due.law(x, "counts 1");
        Due.law(x, "counts heavy * 2");
        due("34: none", x.compare(NONE), 11);
        due("34: first", x.compare(0), 2);
        due("34: second", x.compare(1), 22);
        due("34: law 2", x.compare(2), NONE);
        due("34: -2", x.compare(-2), NONE);
        x.force(0);
        due("34: none, by none in force", x.compare(NONE), 11);
        due("34: what is in force stays", x.count(12), 0);
    }

    private static void promise35And36Days() {
        SeeSaws x = Due.plank(3, 2, 6);
        due("35: seed -1", x.days(-1, 1), -1);
        due("35: seed 1,000,001", x.days(1000001, 1), -1);
        due("35: n 0", x.days(0, 0), -1);
        due("35: n 61", x.days(0, 61), -1);
        due("36: none yet", x.drawn(0, 0), NONE);
        due("35: no claims", new SeeSaws().days(0, 1), -3);
        due("35: -1 ahead of -3", new SeeSaws().days(0, 0), -1);
        due("35: highest", x.days(1000000, 60) >= 0 ? 0 : 1, 0);
        // By the seed 0: 12345, 628841, 621889: claim 0 at place 3.
        due("35: one day", x.days(0, 1), 0);
        due("36: claim 0", x.drawn(0, 0) * 10 + x.drawn(0, 1), 33);
        due("36: claim 1, OFF", x.drawn(1, 1), NONE);
        due("36: what 2", x.drawn(0, 2), NONE);
        due("36: what -1", x.drawn(0, -1), NONE);
        due("36: claim 3", x.drawn(3, 0), NONE);
        due("36: claim -1", x.drawn(-1, 0), NONE);
        due("35: on paper", x.count(13) + x.count(1), 0);
        Due.forced(x, "sheds 1; bars if place = 3");
        due("35: barred", x.days(0, 1), 0);
        due("36: it stays OFF", x.drawn(0, 1), NONE);
        x.put(0, 0);
        due("35: it stays, and sheds", x.days(0, 1), 6);
        due("36: one less heavy", x.drawn(0, 0), 2);
        x.terms(0, 999);
        due("35: it ends at 999", x.days(0, 60), 9);
        due("36: as it is", x.drawn(0, 0), 3);
        x.terms(0, 998);
        due("35: one day alone", x.days(0, 60), 6);
        x.days(0, 61);
        due("36: a refused one leaves the latest", x.drawn(0, 0), 2);
        x.claim(9, 0);
        due("36: a claim that came later", x.drawn(3, 0), NONE);
    }

    public static void main(String[] args) {
        promise21Settle();
        promise22Least();
        promise23Moved();
        promise24Alone();
        promise25Exchanged();
        promise26Shares();
        promise27Off();
        promise28ByTurns();
        promise29And30Weighed();
        promise31CanBe();
        promise32Weigh();
        promise33Few();
        promise34Compare();
        promise35And36Days();
        Due.end();
    }
}
