import java.util.ArrayList;
import java.util.Arrays;
import java.util.List;
import java.util.function.BiFunction;
import java.util.function.ToLongFunction;

/** The document written down once more, as slowly and plainly as can be: rows are all gone through, texts are trees. */
final class Model {
    static final int NONE = -1;

    /** A SUM or a TEST that is BROKEN. */
    static final class Broken extends RuntimeException {
        private static final long serialVersionUID = 1L;

        Broken() {
            super(null, null, false, false);
        }
    }

    /** A TEXT that can't be. */
    static final class Fault extends Exception {
        private static final long serialVersionUID = 1L;
        final int at;

        Fault(int at) {
            this.at = at;
        }
    }

    interface Words {
        long tell(String word, int c);
    }

    static final class Clause {
        String verb;
        ToLongFunction<Words> first;
        ToLongFunction<Words> second;
        int times = 1;
        ToLongFunction<Words> test;
    }

    static final class State {
        List<int[]> claims = new ArrayList<>(); // heavy, kind, place
        int[] terms = {0, 1, 0, 0};
        List<int[]> weighed = new ArrayList<>();
        List<List<Clause>> laws = new ArrayList<>();
        int force = NONE;

        State copy() {
            State s = new State();
            for (int[] c : claims) {
                s.claims.add(c.clone());
            }
            s.terms = terms.clone();
            s.weighed.addAll(weighed);
            s.laws.addAll(laws);
            s.force = force;
            return s;
        }

        List<Clause> law() {
            return force == NONE ? List.of() : laws.get(force);
        }
    }

    static final class Undo {
        int what;
        State before;
    }

    State s = new State();
    List<Undo> undos = new ArrayList<>();
    List<Integer> tape = new ArrayList<>();
    int sawdust = 0;
    int fault = NONE;
    int stopped = NONE;
    State latestDays = null;
    State[] images = new State[2];
    int[] refused = new int[7];
    int status = 0;

    private int refuse(int by) {
        status = by;
        refused[-by]++;
        return by;
    }

    private int fine(int answer) {
        status = 0;
        return answer;
    }

    // ---- what a law tells ----

    static long tellLaw(State s, int claim, int place, String verb, long without, long most, List<Clause> law) {
        int[] c = s.claims.get(claim);
        Words words = (word, n) -> switch (word) {
            case "claim" -> claim;
            case "heavy" -> c[0];
            case "kind" -> c[1];
            case "place" -> place;
            case "arm" -> place - 3;
            case "day" -> s.terms[0];
            case "mood" -> s.terms[2];
            case "slack" -> s.terms[3];
            default -> throw new IllegalStateException(word);
        };
        long told = without;
        for (Clause clause : law) {
            if (clause.verb.equals(verb)) {
                try {
                    if (clause.test == null || clause.test.applyAsLong(words) == 1) {
                        long value = clause.first == null ? 1 : clause.first.applyAsLong(words);
                        told = value < 0 ? 0 : value > most ? most : value;
                    }
                } catch (Broken e) {
                    continue;
                }
            }
        }
        return told;
    }

    static int counts(State s, int claim, int place, List<Clause> law) {
        return (int) tellLaw(s, claim, place, "counts", s.claims.get(claim)[0], 99, law);
    }

    static int sheds(State s, int claim, int place) {
        return (int) tellLaw(s, claim, place, "sheds", 0, 9, s.law());
    }

    static boolean barred(State s, int claim, int place) {
        return tellLaw(s, claim, place, "bars", 0, 1, s.law()) == 1;
    }

    static int tiltBy(State s, List<Clause> law) {
        int tilt = 0;
        for (int c = 0; c < s.claims.size(); c++) {
            int place = s.claims.get(c)[2];
            if (place != NONE) {
                tilt += counts(s, c, place, law) * (place - 3);
            }
        }
        return tilt;
    }

    static int tiltOf(State s) {
        return tiltBy(s, s.law());
    }

    static boolean level(State s) {
        return Math.abs(tiltOf(s)) <= s.terms[3];
    }

    boolean has(int claim) {
        return claim >= 0 && claim < s.claims.size();
    }

    // ---- the face ----

    int claim(int heavy, int kind) {
        if (heavy < 1 || heavy > 30 || kind < 0 || kind > 3) {
            return refuse(-1);
        }
        if (s.claims.size() == 7) {
            return refuse(-5);
        }
        s.claims.add(new int[] {heavy, kind, NONE});
        undos.clear();
        return fine(s.claims.size() - 1);
    }

    int of(int claim, int what) {
        if (!has(claim) || what < 0 || what > 4) {
            return NONE;
        }
        int[] c = s.claims.get(claim);
        if (what < 3) {
            return c[what];
        }
        if (c[2] == NONE) {
            return NONE;
        }
        return what == 3 ? counts(s, claim, c[2], s.law()) : sheds(s, claim, c[2]);
    }

    int asks(int claim, int place, int what) {
        if (!has(claim) || place < 0 || place > 6 || what < 0 || what > 2) {
            return NONE;
        }
        if (what == 0) {
            return counts(s, claim, place, s.law());
        }
        if (what == 1) {
            return barred(s, claim, place) ? 1 : 0;
        }
        State t = s.copy();
        t.claims.get(claim)[2] = place;
        return Math.abs(tiltOf(t));
    }

    int tilt(int what) {
        int t = tiltOf(s);
        if (what == 0) {
            return Math.abs(t);
        }
        if (what == 1) {
            return t == 0 ? 0 : t < 0 ? 1 : 2;
        }
        return what == 2 ? (level(s) ? 1 : 0) : NONE;
    }

    int terms(int what, int value) {
        int[] most = {999, 10, 9, 9};
        if (what < 0 || what > 3 || value < 0 || value > most[what]) {
            return refuse(-1);
        }
        int was = s.terms[what];
        s.terms[what] = value;
        undos.clear();
        return fine(was);
    }

    int feed(int... numbers) {
        if (tape.size() + 20 > 400) {
            return NONE;
        }
        for (int n : numbers) {
            for (int shift = 24; shift >= 0; shift -= 8) {
                tape.add(n >>> shift & 255);
            }
        }
        return tape.size();
    }

    int end(int n) {
        if (n < 0 || n > tape.size()) {
            return NONE;
        }
        tape = new ArrayList<>(tape.subList(0, n));
        return n;
    }

    int row() {
        if (tape.isEmpty()) {
            return refuse(-6);
        }
        sawdust = 0;
        int came = 0;
        while (!tape.isEmpty()) {
            int heavy = tape.remove(0);
            if (tape.isEmpty()) {
                sawdust++;
                break;
            }
            int kind = tape.remove(0);
            if (heavy == 0 || heavy > 30 || kind > 3 || s.claims.size() >= 7) {
                sawdust++;
            } else {
                came++;
                s.claims.add(new int[] {heavy, kind, NONE});
            }
        }
        undos.clear();
        return fine(came);
    }

    private List<Clause> read(boolean laws) {
        StringBuilder text = new StringBuilder();
        for (int b : tape) {
            text.append((char) b);
        }
        tape.clear();
        fault = NONE;
        try {
            return new ModelReader(text.toString(), laws).clauses();
        } catch (Fault f) {
            fault = f.at;
            return null;
        }
    }

    int law() {
        if (s.laws.size() == 6) {
            tape.clear();
            return refuse(-5);
        }
        List<Clause> read = read(true);
        if (read == null) {
            return refuse(-6);
        }
        s.laws.add(read);
        return fine(s.laws.size() - 1);
    }

    private int done;
    private long latest;

    int orders() {
        stopped = NONE;
        List<Clause> read = read(false);
        if (read == null) {
            return refuse(-6);
        }
        State before = s.copy();
        List<Undo> undosBefore = new ArrayList<>(undos);
        done = 0;
        latest = -1;
        for (int i = 0; i < read.size(); i++) {
            for (int t = 0; t < read.get(i).times; t++) {
                if (!runs(read.get(i))) {
                    s = before;
                    undos = undosBefore;
                    stopped = i;
                    return refuse(-3);
                }
            }
        }
        return fine(done);
    }

    private long word(String word, int c) {
        switch (word) {
            case "day":
                return s.terms[0];
            case "done":
                return done;
            case "latest":
                return latest;
            case "tilt":
                return tiltOf(s);
            case "on":
                return s.claims.stream().filter(x -> x[2] >= 0).count();
            case "heavy":
                return has(c) ? s.claims.get(c)[0] : -1;
            case "at":
                return has(c) ? s.claims.get(c)[2] : -1;
            default:
                throw new IllegalStateException(word);
        }
    }

    private boolean runs(Clause clause) {
        try {
            if (clause.test != null && clause.test.applyAsLong(this::word) == 0) {
                return true;
            }
        } catch (Broken e) {
            return true;
        }
        int a = 0;
        int b = 0;
        try {
            a = clause.first == null ? 0 : (int) clause.first.applyAsLong(this::word);
            b = clause.second == null ? 0 : (int) clause.second.applyAsLong(this::word);
        } catch (Broken e) {
            return false;
        }
        int came = clause.verb.equals("put") ? doPut(a, b) : clause.verb.equals("take") ? doTake(a)
                : clause.verb.equals("pad") ? doPad(a, b) : doPass();
        if (came < 0) {
            return false;
        }
        done++;
        if (clause.verb.equals("put")) {
            latest = came;
        }
        return true;
    }

    int force(int law) {
        if (law != NONE && (law < 0 || law >= s.laws.size())) {
            return refuse(-2);
        }
        int was = s.force;
        s.force = law;
        status = 0;
        return was;
    }

    private void keep(int what, State before) {
        Undo u = new Undo();
        u.what = what;
        u.before = before;
        undos.add(u);
        if (undos.size() > 16) {
            undos.remove(0);
        }
    }

    private int doPut(int claim, int place) {
        if (place < 0 || place > 6) {
            return -1;
        }
        if (!has(claim)) {
            return -2;
        }
        if (s.claims.get(claim)[2] == place || barred(s, claim, place)) {
            return -3;
        }
        keep(0, s.copy());
        s.claims.get(claim)[2] = place;
        return Math.abs(tiltOf(s));
    }

    private int doTake(int claim) {
        if (!has(claim)) {
            return -2;
        }
        if (s.claims.get(claim)[2] == NONE) {
            return -3;
        }
        keep(1, s.copy());
        s.claims.get(claim)[2] = NONE;
        return Math.abs(tiltOf(s));
    }

    private int doPad(int claim, int heavy) {
        if (heavy < 1 || heavy > 30) {
            return -1;
        }
        if (!has(claim)) {
            return -2;
        }
        int was = s.claims.get(claim)[0];
        if (was == heavy) {
            return -3;
        }
        keep(2, s.copy());
        s.claims.get(claim)[0] = heavy;
        return was;
    }

    private int doPass() {
        if (s.terms[0] == 999) {
            return -3;
        }
        keep(3, s.copy());
        return dayPasses(s);
    }

    private static int dayPasses(State s) {
        State ahead = s.copy();
        int less = 0;
        for (int c = 0; c < s.claims.size(); c++) {
            int[] claim = s.claims.get(c);
            if (claim[2] != NONE) {
                int then = Math.max(1, claim[0] - sheds(ahead, c, claim[2]));
                less += then < claim[0] ? 1 : 0;
                claim[0] = then;
            }
        }
        s.terms[0]++;
        return less;
    }

    private int either(int answer) {
        return answer < 0 ? refuse(answer) : fine(answer);
    }

    int put(int claim, int place) {
        return either(doPut(claim, place));
    }

    int take(int claim) {
        return either(doTake(claim));
    }

    int pad(int claim, int heavy) {
        return either(doPad(claim, heavy));
    }

    int pass() {
        return either(doPass());
    }

    int undo() {
        if (undos.isEmpty()) {
            return refuse(-3);
        }
        Undo u = undos.remove(undos.size() - 1);
        for (int c = 0; c < s.claims.size(); c++) {
            s.claims.set(c, u.before.claims.get(c).clone());
        }
        s.terms[0] = u.before.terms[0];
        return fine(u.what);
    }

    // ---- on paper: all rows, in their order ----

    private interface Seen {
        void row(int[] places, int tilt);
    }

    /** Goes through all rows of places by claims that may be; 7 tells that one is OFF. */
    private void rows(BiFunction<Integer, Integer, Boolean> may, Seen seen) {
        int n = s.claims.size();
        int[][] weight = new int[n][8];
        boolean[][] can = new boolean[n][8];
        for (int c = 0; c < n; c++) {
            for (int p = 0; p < 8; p++) {
                can[c][p] = may.apply(c, p);
                weight[c][p] = p == 7 ? 0 : counts(s, c, p, s.law()) * (p - 3);
            }
        }
        rowsFrom(0, new int[n], 0, can, weight, seen);
    }

    private void rowsFrom(int c, int[] row, int tilt, boolean[][] can, int[][] weight, Seen seen) {
        if (c == row.length) {
            seen.row(row, tilt);
            return;
        }
        for (int p = 0; p < 8; p++) {
            if (can[c][p]) {
                row[c] = p;
                rowsFrom(c + 1, row, tilt + weight[c][p], can, weight, seen);
            }
        }
    }

    private boolean maySettle(int c, int p) {
        int at = s.claims.get(c)[2];
        return at == NONE ? p < 7 && !barred(s, c, p) : at == p;
    }

    private boolean mayMove(int c, int p) {
        int at = s.claims.get(c)[2];
        return at == NONE ? p == 7 : at == p || (p < 7 && !barred(s, c, p));
    }

    private boolean asksWrong(int claim) {
        return claim != NONE && !has(claim);
    }

    int settle(int claim) {
        if (asksWrong(claim)) {
            return NONE;
        }
        int[] many = {0};
        int[][] first = {null};
        rows(this::maySettle, (row, tilt) -> {
            if (Math.abs(tilt) <= s.terms[3]) {
                many[0]++;
                first[0] = first[0] == null ? row.clone() : first[0];
            }
        });
        return many[0] == 0 ? NONE : claim == NONE ? many[0] : first[0][claim];
    }

    int least(int claim) {
        if (asksWrong(claim)) {
            return NONE;
        }
        int[] best = {Integer.MAX_VALUE};
        int[][] first = {null};
        rows(this::maySettle, (row, tilt) -> {
            if (Math.abs(tilt) < best[0]) {
                best[0] = Math.abs(tilt);
                first[0] = row.clone();
            }
        });
        return first[0] == null ? NONE : claim == NONE ? best[0] : first[0][claim];
    }

    int moved(int claim) {
        if (asksWrong(claim)) {
            return NONE;
        }
        int[] best = {Integer.MAX_VALUE};
        int[][] first = {null};
        rows(this::mayMove, (row, tilt) -> {
            int moves = 0;
            for (int c = 0; c < row.length; c++) {
                moves += row[c] < 7 && row[c] != s.claims.get(c)[2] ? 1 : 0;
            }
            if (Math.abs(tilt) <= s.terms[3] && moves < best[0]) {
                best[0] = moves;
                first[0] = row.clone();
            }
        });
        return first[0] == null ? NONE : claim == NONE ? best[0] : first[0][claim];
    }

    int alone() {
        int bits = 0;
        for (int c = 0; c < s.claims.size(); c++) {
            for (int p = 0; p < 7; p++) {
                State t = s.copy();
                if (t.claims.get(c)[2] == NONE && !barred(t, c, p)) {
                    t.claims.get(c)[2] = p;
                    bits |= level(t) ? 1 << c : 0;
                }
            }
        }
        return bits;
    }

    int exchanged(int what) {
        int best = Math.abs(tiltOf(s));
        int twos = NONE;
        for (int code = 0; code < 77; code++) {
            int a = code / 10;
            int b = code % 10;
            if (a >= b || !has(b) || s.claims.get(a)[2] == NONE || s.claims.get(b)[2] == NONE) {
                continue;
            }
            State t = s.copy();
            t.claims.get(a)[2] = s.claims.get(b)[2];
            t.claims.get(b)[2] = s.claims.get(a)[2];
            if (!barred(t, a, t.claims.get(a)[2]) && !barred(t, b, t.claims.get(b)[2]) && Math.abs(tiltOf(t)) < best) {
                best = Math.abs(tiltOf(t));
                twos = code;
            }
        }
        return twos == NONE || what < 0 || what > 1 ? NONE : what == 0 ? twos : best;
    }

    int shares(int what) {
        if (s.claims.isEmpty() || what < 0 || what > 2) {
            return NONE;
        }
        int best = Integer.MAX_VALUE;
        int share = 0;
        int ways = 0;
        for (int bits = 0; bits < 1 << s.claims.size(); bits++) {
            if ((bits & 1) == 0) {
                continue;
            }
            int differ = 0;
            for (int c = 0; c < s.claims.size(); c++) {
                differ += (bits >> c & 1) == 1 ? s.claims.get(c)[0] : -s.claims.get(c)[0];
            }
            differ = Math.abs(differ);
            if (differ < best) {
                best = differ;
                share = bits;
                ways = 1;
            } else if (differ == best) {
                ways++;
            }
        }
        return what == 0 ? best : what == 1 ? share : ways;
    }

    private void orderings(State t, List<Integer> taken, List<List<Integer>> all) {
        boolean none = true;
        for (int c = 0; c < t.claims.size(); c++) {
            if (t.claims.get(c)[2] != NONE) {
                none = false;
                State u = t.copy();
                u.claims.get(c)[2] = NONE;
                if (level(u)) {
                    List<Integer> more = new ArrayList<>(taken);
                    more.add(c);
                    orderings(u, more, all);
                }
            }
        }
        if (none) {
            all.add(taken);
        }
    }

    int off(int i) {
        List<List<Integer>> all = new ArrayList<>();
        orderings(s, new ArrayList<>(), all);
        if (i == NONE) {
            return all.size();
        }
        return all.isEmpty() || i < 0 || i >= all.get(0).size() ? NONE : all.get(0).get(i);
    }

    private int winner(State t) {
        for (int c = 0; c < t.claims.size(); c++) {
            if (t.claims.get(c)[2] != NONE) {
                State u = t.copy();
                u.claims.get(c)[2] = NONE;
                if (level(u) && winner(u) == NONE) {
                    return c;
                }
            }
        }
        return NONE;
    }

    int byTurns(int what) {
        int wins = winner(s);
        return what == 0 ? (wins == NONE ? 0 : 1) : what == 1 ? wins : NONE;
    }

    int weighed(int left, int right, int came) {
        if (left < 0 || left > 127 || right < 0 || right > 127 || (left & right) != 0 || came < 0 || came > 2) {
            return refuse(-1);
        }
        for (int c = 0; c < 7; c++) {
            if (((left | right) >> c & 1) == 1 && !has(c)) {
                return refuse(-2);
            }
        }
        if (s.weighed.size() == 6) {
            return refuse(-5);
        }
        s.weighed.add(new int[] {left, right, came});
        return fine(s.weighed.size());
    }

    int forget() {
        int was = s.weighed.size();
        s.weighed.clear();
        return was;
    }

    /** What would come of a weighing, if a possibility (a bit of canBe) were so. */
    private int comes(int left, int right, int possibility) {
        int l = 0;
        int r = 0;
        for (int c = 0; c < s.claims.size(); c++) {
            int heavy = s.claims.get(c)[0];
            heavy += possibility == 2 * c ? 1 : possibility == 2 * c + 1 ? -1 : 0;
            l += (left >> c & 1) == 1 ? heavy : 0;
            r += (right >> c & 1) == 1 ? heavy : 0;
        }
        return l == r ? 0 : l > r ? 1 : 2;
    }

    int canBe() {
        int bits = 0;
        for (int possibility = 0; possibility <= 14; possibility++) {
            boolean can = possibility == 14 || possibility / 2 < s.claims.size();
            for (int[] w : s.weighed) {
                can &= comes(w[0], w[1], possibility) == w[2];
            }
            bits |= can ? 1 << possibility : 0;
        }
        return bits;
    }

    int weigh(int what) {
        int can = canBe();
        if (can == 0 || what < 0 || what > 2) {
            return NONE;
        }
        int best = 99;
        int bestLeft = 0;
        int bestRight = 0;
        int sets = 1 << s.claims.size();
        for (int left = 0; left < sets; left++) {
            for (int right = 0; right < sets; right++) {
                if ((left & right) == 0) {
                    int[] many = new int[3];
                    for (int possibility = 0; possibility <= 14; possibility++) {
                        if ((can >> possibility & 1) == 1) {
                            many[comes(left, right, possibility)]++;
                        }
                    }
                    int most = Math.max(many[0], Math.max(many[1], many[2]));
                    if (most < best) {
                        best = most;
                        bestLeft = left;
                        bestRight = right;
                    }
                }
            }
        }
        return what == 0 ? bestLeft : what == 1 ? bestRight : best;
    }

    long few(int k, int n) {
        if (k < 1 || k > 20 || n < 0 || n > 99) {
            return NONE;
        }
        long[] parts = new long[101];
        parts[0] = 1000000000000L;
        for (int bird = 0; bird < n; bird++) {
            long[] then = new long[101];
            for (int did = 0; did < 100; did++) {
                then[did] += parts[did] * (10 - s.terms[1]) / 10;
                then[did + 1] += parts[did] * s.terms[1] / 10;
            }
            parts = then;
        }
        return Arrays.stream(parts, 0, k).sum();
    }

    int compare(int law) {
        if (law < NONE || law >= s.laws.size()) {
            return NONE;
        }
        return Math.abs(tiltBy(s, law == NONE ? List.of() : s.laws.get(law)));
    }

    private long seed;

    private int draw(int m) {
        seed = (seed * 1103 + 12345) % 1000003;
        return (int) (seed % m);
    }

    int days(int from, int n) {
        if (from < 0 || from > 1000000 || n < 1 || n > 60) {
            return refuse(-1);
        }
        if (s.claims.isEmpty()) {
            return refuse(-3);
        }
        seed = from;
        State t = s.copy();
        for (int i = 0; i < n; i++) {
            if (t.terms[0] == 999) {
                break;
            }
            int claim = draw(t.claims.size());
            int place = draw(7);
            int way = draw(3);
            int[] c = t.claims.get(claim);
            if (way == 2) {
                c[2] = NONE;
            } else if (c[2] != place && !barred(t, claim, place)) {
                c[2] = place;
            }
            dayPasses(t);
        }
        latestDays = t;
        return fine(Math.abs(tiltOf(t)));
    }

    int drawn(int claim, int what) {
        if (latestDays == null || claim < 0 || claim >= latestDays.claims.size() || what < 0 || what > 1) {
            return NONE;
        }
        return latestDays.claims.get(claim)[2 * what];
    }

    int image(int k) {
        if (k < 0 || k > 1) {
            return refuse(-1);
        }
        images[k] = s.copy();
        return fine(0);
    }

    int back(int k) {
        if (k < 0 || k > 1) {
            return refuse(-1);
        }
        if (images[k] == null) {
            return refuse(-2);
        }
        s = images[k].copy();
        undos.clear();
        return fine(0);
    }

    int count(int what) {
        switch (what) {
            case 0:
                return s.claims.size();
            case 1:
                return (int) word("on", 0);
            case 2:
                return s.claims.stream().mapToInt(c -> c[0]).sum();
            case 3:
                return s.weighed.size();
            case 4:
                return s.laws.size();
            case 5:
                return undos.size();
            case 6:
                return tape.size();
            case 7:
            case 8:
            case 9:
                return refused[what - 6];
            case 10:
            case 11:
                return refused[what - 5];
            case 12:
                return s.force;
            case 13:
            case 14:
            case 15:
            case 16:
                return s.terms[what - 13];
            default:
                return NONE;
        }
    }
}
