import java.util.Arrays;

/** A court's plank on which claims are settled by weight; README.md tells how it is used. */
public final class SeeSaws {
    public static final int NONE = -1;

    private static final int NO_NUMBER = -1;
    private static final int NOT_THERE = -2;
    private static final int CANNOT_BE = -3;
    private static final int NO_ROOM = -5;
    private static final int NO_TEXT = -6;
    private static final int REFUSALS = 5;

    private static final int CLAIMS = 7;
    private static final int SUBSETS = 128;
    private static final int PLACES = 7;
    private static final int MIDDLE = 3;
    private static final int TOLD_OFF = 7;
    private static final int HEAVIEST = 30;
    private static final int KINDS = 4;
    private static final int LAWS = 6;
    private static final int WEIGHINGS = 6;
    private static final int IMAGES = 2;

    private static final int DAY = 0;
    private static final int BIRDS = 1;
    private static final int MOOD = 2;
    private static final int SLACK = 3;
    private static final int TERMS = 4;
    private static final int[] MOST_OF_TERM = {999, 10, 9, 9};
    private static final int LAST_DAY = 999;

    private static final int TAPE_ROOM = 400;
    private static final int CLAUSES = 12;
    private static final int PARTS = 50;
    private static final int BRACKETS = 8;
    private static final int MOST_NUMBER = 1000;
    private static final int MOST_TIMES = 20;

    private static final int COUNTS = 0;
    private static final int SHEDS = 1;
    private static final int BARS = 2;
    private static final int MOST_COUNTED = 99;
    private static final int MOST_SHED = 9;

    // The numbers of the four orders are also what undo() answers.
    private static final int PUT = 0;
    private static final int TAKE = 1;
    private static final int PAD = 2;
    private static final int PASS = 3;
    private static final int UNDONE_AT_MOST = 16;

    private static final int LAW_WORDS = 8;
    private static final int WORD_DAY = 0;
    private static final int WORD_DONE = 1;
    private static final int WORD_LATEST = 2;
    private static final int WORD_TILT = 3;
    private static final int WORD_ON = 4;
    private static final int WORD_HEAVY = 5;
    private static final int WORD_AT = WORD_HEAVY + CLAIMS;
    private static final int ORDER_WORDS = WORD_AT + CLAIMS;

    private static final int STOP = 0;
    private static final int NUMBER = 1;
    private static final int WORD = 2;
    private static final int NOT = 3;
    private static final int SKIP_IF_SO = 4;
    private static final int SKIP_IF_NOT = 5;
    private static final int ADD = 6;
    private static final int SUBTRACT = 7;
    private static final int MULTIPLY = 8;
    private static final int DIVIDE = 9;
    private static final int REST = 10;
    private static final int BELOW = 11;
    private static final int ABOVE = 12;
    private static final int SAME = 13;
    // An instruction and what goes with it share one number: code * GOES_WITH + what goes with it.
    private static final int GOES_WITH = 2048;
    private static final int CODE_ROOM = 512;
    private static final int STACK_ROOM = 40;
    private static final long LIMIT = 1000000000L;

    private static final int NONE_FALSE = 14;
    private static final int MOST_FEW = 20;
    private static final int MOST_BIRDS = 99;
    private static final long WHOLE = 1000000000000L;

    private static final int MOST_SEED = 1000000;
    private static final int MOST_DAYS = 60;
    private static final int SEED_STEP = 1103;
    private static final int SEED_MORE = 12345;
    private static final int SEED_ROUND = 1000003;

    private final Plank plank = new Plank();
    private final Plank plankBefore = new Plank();
    private final Plank paper = new Plank();
    private final Plank[] images = new Plank[IMAGES];
    private final History history = new History();
    private final History historyBefore = new History();
    private final Reader reader = new Reader();
    private final Judge judge = new Judge();
    private final Reckoner reckoner = new Reckoner();
    private final int[] words = new int[ORDER_WORDS];
    private final Rows rows = new Rows();
    private final int[] sums = new int[SUBSETS];
    private final int[] found = new int[SUBSETS];
    private final int[] refused = new int[REFUSALS];
    private int refusedBy;
    private int dust;
    private int stoppedAt;

    public SeeSaws() {
        stoppedAt = NONE;
    }

    // ---- claims, places, terms ----

    public int claim(int heavy, int kind) {
        if (!canBeClaim(heavy, kind)) {
            return refuse(NO_NUMBER);
        }
        if (plank.claims >= CLAIMS) {
            return refuse(NO_ROOM);
        }
        history.clear();
        return told(plank.addClaim(heavy, kind));
    }

    public int of(int claim, int what) {
        if (!plank.hasClaim(claim)) {
            return NONE;
        }
        int place = plank.place[claim];
        switch (what) {
            case 0:
                return plank.heavy[claim];
            case 1:
                return plank.kind[claim];
            case 2:
                return place;
            case 3:
                return plank.isOn(claim) ? judge.countAt(plank, claim, place) : NONE;
            case 4:
                return plank.isOn(claim) ? judge.shedAt(plank, claim, place) : NONE;
            default:
                return NONE;
        }
    }

    public int asks(int claim, int place, int what) {
        if (!plank.hasClaim(claim) || !isPlace(place)) {
            return NONE;
        }
        switch (what) {
            case 0:
                return judge.countAt(plank, claim, place);
            case 1:
                return judge.barsAt(plank, claim, place) ? 1 : 0;
            case 2:
                return Math.abs(tiltWithout(claim) + weightAt(claim, place));
            default:
                return NONE;
        }
    }

    public int tilt(int what) {
        int now = tiltNow();
        switch (what) {
            case 0:
                return Math.abs(now);
            case 1:
                return now == 0 ? 0 : now < 0 ? 1 : 2;
            case 2:
                return isLevel(now) ? 1 : 0;
            default:
                return NONE;
        }
    }

    public int terms(int what, int value) {
        if (what < 0 || what >= TERMS || value < 0 || value > MOST_OF_TERM[what]) {
            return refuse(NO_NUMBER);
        }
        int was = plank.term[what];
        plank.term[what] = value;
        history.clear();
        return told(was);
    }

    // ---- the tape and what is read from it ----

    public int feed(int a, int b, int c, int d, int e) {
        if (reader.length + 20 > TAPE_ROOM) {
            return NONE;
        }
        reader.append(a);
        reader.append(b);
        reader.append(c);
        reader.append(d);
        reader.append(e);
        return reader.length;
    }

    public int end(int n) {
        if (n < 0 || n > reader.length) {
            return NONE;
        }
        reader.length = n;
        return n;
    }

    public int row() {
        if (reader.length == 0) {
            return refuse(NO_TEXT);
        }
        int came = 0;
        dust = 0;
        for (int i = 0; i < reader.length && i < TAPE_ROOM; i += 2) {
            boolean whole = i + 1 < reader.length && i + 1 < TAPE_ROOM;
            if (whole && plank.claims < CLAIMS && canBeClaim(reader.bytes[i], reader.bytes[i + 1])) {
                plank.addClaim(reader.bytes[i], reader.bytes[i + 1]);
                came++;
            } else {
                dust++;
            }
        }
        reader.length = 0;
        history.clear();
        return told(came);
    }

    public int sawdust() {
        return dust;
    }

    public int law() {
        if (plank.laws >= LAWS) {
            reader.length = 0;
            return refuse(NO_ROOM);
        }
        if (!reader.reads(true)) {
            return refuse(NO_TEXT);
        }
        return told(plank.addLaw(reader.text.copy()));
    }

    public int orders() {
        stoppedAt = NONE;
        if (!reader.reads(false)) {
            return refuse(NO_TEXT);
        }
        plankBefore.become(plank);
        historyBefore.become(history);
        words[WORD_DONE] = 0;
        words[WORD_LATEST] = NONE;
        Text text = reader.text;
        for (int clause = 0; clause < text.clauses && clause < CLAUSES; clause++) {
            for (int time = 0; time < text.times[clause]; time++) {
                if (!runsOnce(text, clause)) {
                    stoppedAt = clause;
                    plank.become(plankBefore);
                    history.become(historyBefore);
                    return refuse(CANNOT_BE);
                }
            }
        }
        return told(words[WORD_DONE]);
    }

    public int fault() {
        return reader.fault;
    }

    public int stopped() {
        return stoppedAt;
    }

    public int force(int law) {
        if (law != NONE && !plank.hasLaw(law)) {
            return refuse(NOT_THERE);
        }
        int was = plank.inForce;
        plank.inForce = law;
        return told(was);
    }

    // ---- what is done on the plank ----

    public int put(int claim, int place) {
        int answer = puts(claim, place);
        return answer < 0 ? refuse(answer) : told(Math.abs(tiltNow()));
    }

    public int take(int claim) {
        int answer = takes(claim);
        return answer < 0 ? refuse(answer) : told(Math.abs(tiltNow()));
    }

    public int pad(int claim, int heavy) {
        int answer = pads(claim, heavy);
        return answer < 0 ? refuse(answer) : told(answer);
    }

    public int pass() {
        int answer = passes();
        return answer < 0 ? refuse(answer) : told(answer);
    }

    public int undo() {
        if (history.kept == 0) {
            return refuse(CANNOT_BE);
        }
        return told(history.giveBack(plank));
    }

    // ---- what is asked on paper ----

    public int settle(int claim) {
        if (claim != NONE && !plank.hasClaim(claim)) {
            return NONE;
        }
        offerPlaces(false);
        int slack = plank.term[SLACK];
        if (claim == NONE) {
            int many = rows.howMany(0, slack);
            return many == 0 ? NONE : many;
        }
        return rows.finds(0, slack) ? rows.first[claim] : NONE;
    }

    public int least(int claim) {
        if (claim != NONE && !plank.hasClaim(claim)) {
            return NONE;
        }
        offerPlaces(false);
        int tilt = rows.leastWeight();
        if (tilt == NONE || claim == NONE) {
            return tilt;
        }
        return rows.finds(0, tilt) ? rows.first[claim] : NONE;
    }

    public int moved(int claim) {
        if (claim != NONE && !plank.hasClaim(claim)) {
            return NONE;
        }
        offerPlaces(true);
        for (int moves = 0; moves <= CLAIMS; moves++) {
            if (rows.finds(moves, plank.term[SLACK])) {
                return claim == NONE ? moves : rows.first[claim];
            }
        }
        return NONE;
    }

    public int alone() {
        int bits = 0;
        int now = tiltNow();
        for (int claim = 0; claim < plank.claims; claim++) {
            if (!plank.isOn(claim) && levelsAlone(claim, now)) {
                bits |= 1 << claim;
            }
        }
        return bits;
    }

    public int exchanged(int what) {
        int now = tiltNow();
        int least = Math.abs(now);
        int twos = NONE;
        for (int low = 0; low < plank.claims; low++) {
            for (int high = low + 1; high < plank.claims; high++) {
                if (canExchange(low, high)) {
                    int then = Math.abs(now + tiltByExchange(low, high));
                    if (then < least) {
                        least = then;
                        twos = 10 * low + high;
                    }
                }
            }
        }
        if (twos == NONE || what < 0 || what > 1) {
            return NONE;
        }
        return what == 0 ? twos : least;
    }

    public int shares(int what) {
        if (plank.claims == 0) {
            return NONE;
        }
        sumHeavies();
        int all = (1 << plank.claims) - 1;
        int differ = HEAVIEST * CLAIMS + 1;
        int share = NONE;
        int ways = 0;
        for (int bits = 1; bits <= all; bits += 2) {
            int by = Math.abs(sums[bits] - sums[all - bits]);
            if (by < differ) {
                differ = by;
                share = bits;
                ways = 0;
            }
            if (by == differ) {
                ways++;
            }
        }
        switch (what) {
            case 0:
                return differ;
            case 1:
                return share;
            case 2:
                return ways;
            default:
                return NONE;
        }
    }

    public int off(int i) {
        int left = plank.onBits();
        sumTilts();
        findOrders(left);
        if (i == NONE) {
            return found[left];
        }
        if (i < 0 || i >= Integer.bitCount(left) || found[left] == 0) {
            return NONE;
        }
        int claim = NONE;
        for (int taken = 0; taken <= i; taken++) {
            claim = firstWithOrders(left);
            if (claim == NONE) {
                return NONE;
            }
            left &= ~(1 << claim);
        }
        return claim;
    }

    public int byTurns(int what) {
        int on = plank.onBits();
        sumTilts();
        findWins(on);
        if (what == 0) {
            return found[on];
        }
        return what == 1 ? winningClaim(on) : NONE;
    }

    public int weighed(int left, int right, int came) {
        if (!areBits(left) || !areBits(right) || (left & right) != 0 || came < 0 || came > 2) {
            return refuse(NO_NUMBER);
        }
        if (((left | right) >> plank.claims) != 0) {
            return refuse(NOT_THERE);
        }
        if (plank.weighings >= WEIGHINGS) {
            return refuse(NO_ROOM);
        }
        return told(plank.addWeighing(left, right, came));
    }

    public int forget() {
        int was = plank.weighings;
        plank.weighings = 0;
        return was;
    }

    public int canBe() {
        sumHeavies();
        int bits = fits(0, 0) ? 1 << NONE_FALSE : 0;
        for (int claim = 0; claim < plank.claims; claim++) {
            if (fits(1 << claim, 1)) {
                bits |= 1 << (2 * claim);
            }
            if (fits(1 << claim, -1)) {
                bits |= 1 << (2 * claim + 1);
            }
        }
        return bits;
    }

    public int weigh(int what) {
        int can = canBe();
        if (can == 0) {
            return NONE;
        }
        int best = bestWeighing(can);
        switch (what) {
            case 0:
                return (best / SUBSETS) % SUBSETS;
            case 1:
                return best % SUBSETS;
            case 2:
                return best / SUBSETS / SUBSETS;
            default:
                return NONE;
        }
    }

    public long few(int k, int n) {
        if (k < 1 || k > MOST_FEW || n < 0 || n > MOST_BIRDS) {
            return NONE;
        }
        long[] parts = new long[MOST_FEW];
        parts[0] = WHOLE;
        int alight = plank.term[BIRDS];
        for (int bird = 0; bird < n; bird++) {
            for (int did = k - 1; did > 0; did--) {
                parts[did] = parts[did] * (10 - alight) / 10 + parts[did - 1] * alight / 10;
            }
            parts[0] = parts[0] * (10 - alight) / 10;
        }
        long together = 0;
        for (int did = 0; did < k; did++) {
            together += parts[did];
        }
        return together;
    }

    public int compare(int law) {
        if (law != NONE && !plank.hasLaw(law)) {
            return NONE;
        }
        return Math.abs(judge.tiltBy(plank, plank.textOf(law)));
    }

    public int days(int seed, int n) {
        if (seed < 0 || seed > MOST_SEED || n < 1 || n > MOST_DAYS) {
            return refuse(NO_NUMBER);
        }
        if (plank.claims == 0) {
            return refuse(CANNOT_BE);
        }
        paper.become(plank);
        int s = seed;
        for (int time = 0; time < n && paper.term[DAY] < LAST_DAY; time++) {
            s = nextSeed(s);
            int claim = s % plank.claims;
            s = nextSeed(s);
            int place = s % PLACES;
            s = nextSeed(s);
            drawOnPaper(claim, place, s % 3);
            judge.passDay(paper);
        }
        return told(Math.abs(judge.tiltBy(paper, paper.textOf(paper.inForce))));
    }

    public int drawn(int claim, int what) {
        // Ahead of any DAYS the paper has no claims.
        if (!paper.hasClaim(claim)) {
            return NONE;
        }
        switch (what) {
            case 0:
                return paper.heavy[claim];
            case 1:
                return paper.place[claim];
            default:
                return NONE;
        }
    }

    // ---- images, counts ----

    public int image(int k) {
        if (k < 0 || k >= IMAGES) {
            return refuse(NO_NUMBER);
        }
        Plank kept = images[k];
        if (kept == null) {
            kept = new Plank();
            images[k] = kept;
        }
        kept.become(plank);
        return told(0);
    }

    public int back(int k) {
        if (k < 0 || k >= IMAGES) {
            return refuse(NO_NUMBER);
        }
        Plank kept = images[k];
        if (kept == null) {
            return refuse(NOT_THERE);
        }
        plank.become(kept);
        history.clear();
        return told(0);
    }

    public int count(int what) {
        if (what >= 7 && what < 7 + REFUSALS) {
            return refused[what - 7];
        }
        if (what >= 13 && what < 13 + TERMS) {
            return plank.term[what - 13];
        }
        switch (what) {
            case 0:
                return plank.claims;
            case 1:
                return Integer.bitCount(plank.onBits());
            case 2:
                return plank.heavyOfAll();
            case 3:
                return plank.weighings;
            case 4:
                return plank.laws;
            case 5:
                return history.kept;
            case 6:
                return reader.length;
            case 12:
                return plank.inForce;
            default:
                return NONE;
        }
    }

    public int status() {
        return refusedBy;
    }

    // ---- how a call ends ----

    private int told(int answer) {
        refusedBy = 0;
        return answer;
    }

    private int refuse(int by) {
        refusedBy = by;
        // There is no -4, so the two below it stand one nearer.
        int slot = by >= CANNOT_BE ? -by - 1 : -by - 2;
        if (slot >= 0 && slot < REFUSALS) {
            refused[slot]++;
        }
        return by;
    }

    private static boolean canBeClaim(int heavy, int kind) {
        return canBeHeavy(heavy) && kind >= 0 && kind < KINDS;
    }

    private static boolean canBeHeavy(int heavy) {
        return heavy >= 1 && heavy <= HEAVIEST;
    }

    private static boolean isPlace(int place) {
        return place >= 0 && place < PLACES;
    }

    private static boolean areBits(int bits) {
        return bits >= 0 && bits < SUBSETS;
    }

    // ---- the four things that can be done; each answers what refuses it, or what is not below 0 ----

    private int puts(int claim, int place) {
        if (!isPlace(place)) {
            return NO_NUMBER;
        }
        if (!plank.hasClaim(claim)) {
            return NOT_THERE;
        }
        if (!canPut(plank, claim, place)) {
            return CANNOT_BE;
        }
        history.keep(PUT, plank);
        plank.place[claim] = place;
        return 0;
    }

    private int takes(int claim) {
        if (!plank.hasClaim(claim)) {
            return NOT_THERE;
        }
        if (!plank.isOn(claim)) {
            return CANNOT_BE;
        }
        history.keep(TAKE, plank);
        plank.place[claim] = NONE;
        return 0;
    }

    private int pads(int claim, int heavy) {
        if (!canBeHeavy(heavy)) {
            return NO_NUMBER;
        }
        if (!plank.hasClaim(claim)) {
            return NOT_THERE;
        }
        int was = plank.heavy[claim];
        if (was == heavy) {
            return CANNOT_BE;
        }
        history.keep(PAD, plank);
        plank.heavy[claim] = heavy;
        return was;
    }

    private int passes() {
        if (plank.term[DAY] >= LAST_DAY) {
            return CANNOT_BE;
        }
        history.keep(PASS, plank);
        return judge.passDay(plank);
    }

    private boolean canPut(Plank where, int claim, int place) {
        return where.place[claim] != place && !judge.barsAt(where, claim, place);
    }

    /** Whether a clause of orders could be, this time; one whose "if" is not so is left out. */
    private boolean runsOnce(Text text, int clause) {
        tellWords();
        int test = text.test[clause];
        if (test != NONE && (!reckoner.works(text, test, words) || reckoner.value == 0)) {
            return true;
        }
        int verb = text.verb[clause];
        if (verb != PASS && !reckoner.works(text, text.first[clause], words)) {
            return false;
        }
        int first = reckoner.value;
        if ((verb == PUT || verb == PAD) && !reckoner.works(text, text.second[clause], words)) {
            return false;
        }
        int second = reckoner.value;
        int answer = verb == PUT ? puts(first, second)
                : verb == TAKE ? takes(first)
                : verb == PAD ? pads(first, second)
                : passes();
        if (answer < 0) {
            return false;
        }
        words[WORD_DONE]++;
        if (verb == PUT) {
            words[WORD_LATEST] = Math.abs(tiltNow());
        }
        return true;
    }

    /** All words of orders but "done" and "latest", which go on from order to order. */
    private void tellWords() {
        words[WORD_DAY] = plank.term[DAY];
        words[WORD_TILT] = judge.tiltBy(plank, plank.textOf(plank.inForce));
        words[WORD_ON] = Integer.bitCount(plank.onBits());
        for (int claim = 0; claim < CLAIMS; claim++) {
            boolean there = claim < plank.claims;
            words[WORD_HEAVY + claim] = there ? plank.heavy[claim] : NONE;
            words[WORD_AT + claim] = there ? plank.place[claim] : NONE;
        }
    }

    // ---- tilt ----

    private int tiltNow() {
        return judge.tiltBy(plank, plank.textOf(plank.inForce));
    }

    private boolean isLevel(int tilt) {
        return Math.abs(tilt) <= plank.term[SLACK];
    }

    private int weightAt(int claim, int place) {
        return judge.countAt(plank, claim, place) * (place - MIDDLE);
    }

    private int tiltWithout(int claim) {
        int now = tiltNow();
        return plank.isOn(claim) ? now - weightAt(claim, plank.place[claim]) : now;
    }

    private boolean levelsAlone(int claim, int now) {
        for (int place = 0; place < PLACES; place++) {
            if (isLevel(now + weightAt(claim, place)) && !judge.barsAt(plank, claim, place)) {
                return true;
            }
        }
        return false;
    }

    private boolean canExchange(int low, int high) {
        return plank.isOn(low) && plank.isOn(high)
                && !judge.barsAt(plank, low, plank.place[high])
                && !judge.barsAt(plank, high, plank.place[low]);
    }

    private int tiltByExchange(int low, int high) {
        int lowAt = plank.place[low];
        int highAt = plank.place[high];
        return weightAt(low, highAt) + weightAt(high, lowAt) - weightAt(low, lowAt) - weightAt(high, highAt);
    }

    /** Tells rows which places each claim may have: those ON may move, or those OFF may be put. */
    private void offerPlaces(boolean moving) {
        rows.clear();
        for (int claim = 0; claim < CLAIMS; claim++) {
            boolean on = plank.isOn(claim);
            if (claim >= plank.claims || (moving && !on)) {
                rows.offer(claim, TOLD_OFF, 0, 0);
                continue;
            }
            for (int place = 0; place < PLACES; place++) {
                boolean stays = on && plank.place[claim] == place;
                if (stays || (on == moving && !judge.barsAt(plank, claim, place))) {
                    rows.offer(claim, place, weightAt(claim, place), moving && !stays ? 1 : 0);
                }
            }
        }
        rows.tallyTails();
    }

    // ---- sums over sets of claims, as bits ----

    private void sumHeavies() {
        for (int claim = 0; claim < CLAIMS; claim++) {
            sumWith(claim, plank.hasClaim(claim) ? plank.heavy[claim] : 0);
        }
    }

    private void sumTilts() {
        for (int claim = 0; claim < CLAIMS; claim++) {
            sumWith(claim, plank.isOn(claim) ? weightAt(claim, plank.place[claim]) : 0);
        }
    }

    /** The sums of all sets whose highest claim is this one; those without it stand already. */
    private void sumWith(int claim, int weight) {
        int bit = 1 << claim;
        for (int lower = 0; lower < bit; lower++) {
            sums[bit + lower] = sums[lower] + weight;
        }
    }

    /** Whether a claim that is among these can be taken so that it is level then. */
    private boolean canTake(int bits, int claim) {
        int bit = 1 << claim;
        return (bits & bit) != 0 && isLevel(sums[bits - bit]);
    }

    private void findOrders(int on) {
        found[0] = 1;
        for (int bits = 1; bits <= on; bits++) {
            int many = 0;
            for (int claim = 0; claim < CLAIMS; claim++) {
                if (canTake(bits, claim)) {
                    many += found[bits - (1 << claim)];
                }
            }
            found[bits] = many;
        }
    }

    private int firstWithOrders(int bits) {
        for (int claim = 0; claim < CLAIMS; claim++) {
            if (canTake(bits, claim) && found[bits - (1 << claim)] > 0) {
                return claim;
            }
        }
        return NONE;
    }

    private void findWins(int on) {
        found[0] = 0;
        for (int bits = 1; bits <= on; bits++) {
            found[bits] = winningClaim(bits) == NONE ? 0 : 1;
        }
    }

    private int winningClaim(int bits) {
        for (int claim = 0; claim < CLAIMS; claim++) {
            if (canTake(bits, claim) && found[bits - (1 << claim)] == 0) {
                return claim;
            }
        }
        return NONE;
    }

    /** Whether all weighings would come as they did, were the one claim in bits heavier by that. */
    private boolean fits(int bits, int by) {
        for (int i = 0; i < plank.weighings; i++) {
            int differ = sums[plank.left[i]] - sums[plank.right[i]];
            if ((plank.left[i] & bits) != 0) {
                differ += by;
            } else if ((plank.right[i] & bits) != 0) {
                differ -= by;
            }
            int comes = differ == 0 ? 0 : differ > 0 ? 1 : 2;
            if (comes != plank.came[i]) {
                return false;
            }
        }
        return true;
    }

    /** The lowest of all weighings, written as the most that come alike, the left, the right ones. */
    private int bestWeighing(int can) {
        int more = 0;
        int less = 0;
        for (int claim = 0; claim < CLAIMS; claim++) {
            more |= ((can >> (2 * claim)) & 1) << claim;
            less |= ((can >> (2 * claim + 1)) & 1) << claim;
        }
        int all = Integer.bitCount(can);
        int sets = 1 << plank.claims;
        int best = SUBSETS * SUBSETS * SUBSETS;
        for (int left = 0; left < sets; left++) {
            for (int right = 0; right < sets; right++) {
                if ((left & right) == 0) {
                    int up = Integer.bitCount(more & left) + Integer.bitCount(less & right);
                    int down = Integer.bitCount(less & left) + Integer.bitCount(more & right);
                    int most = mostAlike(sums[left] - sums[right], up, down, all - up - down);
                    best = Math.min(best, (most * SUBSETS + left) * SUBSETS + right);
                }
            }
        }
        return best;
    }

    /** By how much the left is heavier if none is false; how many would make that one more, one less, leave it. */
    private static int mostAlike(int differ, int up, int down, int leave) {
        switch (differ) {
            case 0:
                return Math.max(leave, Math.max(up, down));
            case 1:
                return Math.max(leave + up, down);
            case -1:
                return Math.max(leave + down, up);
            default:
                return leave + up + down;
        }
    }

    // ---- days by draws ----

    private static int nextSeed(int s) {
        return (s * SEED_STEP + SEED_MORE) % SEED_ROUND;
    }

    private void drawOnPaper(int claim, int place, int way) {
        if (way == 2) {
            paper.place[claim] = NONE;
        } else if (canPut(paper, claim, place)) {
            paper.place[claim] = place;
        }
    }

    /** All that an image keeps. */
    private static final class Plank {
        int claims;
        final int[] heavy = new int[CLAIMS];
        final int[] kind = new int[CLAIMS];
        final int[] place = new int[CLAIMS];
        final int[] term = new int[TERMS];
        int weighings;
        final int[] left = new int[WEIGHINGS];
        final int[] right = new int[WEIGHINGS];
        final int[] came = new int[WEIGHINGS];
        int laws;
        final Text[] texts = new Text[LAWS];
        int inForce;

        Plank() {
            term[BIRDS] = 1;
            inForce = NONE;
        }

        boolean hasClaim(int claim) {
            return claim >= 0 && claim < claims && claim < CLAIMS;
        }

        boolean isOn(int claim) {
            return hasClaim(claim) && place[claim] != NONE;
        }

        boolean hasLaw(int law) {
            return law >= 0 && law < laws && law < LAWS;
        }

        /** A law's text; null if there is no such law. */
        Text textOf(int law) {
            return hasLaw(law) ? texts[law] : null;
        }

        int onBits() {
            int bits = 0;
            for (int claim = 0; claim < CLAIMS; claim++) {
                if (isOn(claim)) {
                    bits |= 1 << claim;
                }
            }
            return bits;
        }

        int heavyOfAll() {
            int together = 0;
            for (int claim = 0; claim < CLAIMS; claim++) {
                together += hasClaim(claim) ? heavy[claim] : 0;
            }
            return together;
        }

        int addClaim(int howHeavy, int ofKind) {
            if (claims >= CLAIMS) {
                return NONE;
            }
            heavy[claims] = howHeavy;
            kind[claims] = ofKind;
            place[claims] = NONE;
            claims++;
            return claims - 1;
        }

        int addLaw(Text text) {
            if (laws >= LAWS) {
                return NONE;
            }
            texts[laws] = text;
            laws++;
            return laws - 1;
        }

        int addWeighing(int onLeft, int onRight, int whatCame) {
            if (weighings < WEIGHINGS) {
                left[weighings] = onLeft;
                right[weighings] = onRight;
                came[weighings] = whatCame;
                weighings++;
            }
            return weighings;
        }

        void become(Plank other) {
            claims = other.claims;
            System.arraycopy(other.heavy, 0, heavy, 0, CLAIMS);
            System.arraycopy(other.kind, 0, kind, 0, CLAIMS);
            System.arraycopy(other.place, 0, place, 0, CLAIMS);
            System.arraycopy(other.term, 0, term, 0, TERMS);
            weighings = other.weighings;
            System.arraycopy(other.left, 0, left, 0, WEIGHINGS);
            System.arraycopy(other.right, 0, right, 0, WEIGHINGS);
            System.arraycopy(other.came, 0, came, 0, WEIGHINGS);
            laws = other.laws;
            for (int law = 0; law < LAWS; law++) {
                texts[law] = other.texts[law];
            }
            inForce = other.inForce;
        }
    }

    /** What can be undone: how it was ahead of each of the latest things done, in a ring. */
    private static final class History {
        private static final int DAY_AT = 2 * CLAIMS;
        private static final int WHAT_AT = DAY_AT + 1;
        private static final int RECORD = WHAT_AT + 1;

        int kept;
        private int next;
        private final int[] records = new int[UNDONE_AT_MOST * RECORD];

        void clear() {
            kept = 0;
        }

        void keep(int what, Plank plank) {
            int at = next * RECORD;
            System.arraycopy(plank.heavy, 0, records, at, CLAIMS);
            System.arraycopy(plank.place, 0, records, at + CLAIMS, CLAIMS);
            records[at + DAY_AT] = plank.term[DAY];
            records[at + WHAT_AT] = what;
            next = (next + 1) % UNDONE_AT_MOST;
            kept = Math.min(kept + 1, UNDONE_AT_MOST);
        }

        /** What was undone; NONE if nothing was kept. */
        int giveBack(Plank plank) {
            if (kept == 0) {
                return NONE;
            }
            kept--;
            next = (next + UNDONE_AT_MOST - 1) % UNDONE_AT_MOST;
            int at = next * RECORD;
            System.arraycopy(records, at, plank.heavy, 0, CLAIMS);
            System.arraycopy(records, at + CLAIMS, plank.place, 0, CLAIMS);
            plank.term[DAY] = records[at + DAY_AT];
            return records[at + WHAT_AT];
        }

        void become(History other) {
            kept = other.kept;
            next = other.next;
            System.arraycopy(other.records, 0, records, 0, UNDONE_AT_MOST * RECORD);
        }
    }

    /** A text that was read: of each clause what it is, and where in the code its parts begin (NONE: it has none). */
    private static final class Text {
        int clauses;
        final int[] verb = new int[CLAUSES];
        final int[] first = new int[CLAUSES];
        final int[] second = new int[CLAUSES];
        final int[] times = new int[CLAUSES];
        final int[] test = new int[CLAUSES];
        int used;
        final int[] code;

        Text(int room) {
            code = new int[Math.max(0, room)];
        }

        Text copy() {
            Text other = new Text(used);
            other.clauses = clauses;
            System.arraycopy(verb, 0, other.verb, 0, CLAUSES);
            System.arraycopy(first, 0, other.first, 0, CLAUSES);
            System.arraycopy(second, 0, other.second, 0, CLAUSES);
            System.arraycopy(times, 0, other.times, 0, CLAUSES);
            System.arraycopy(test, 0, other.test, 0, CLAUSES);
            other.used = used;
            System.arraycopy(code, 0, other.code, 0, used);
            return other;
        }
    }

    /** Reckons what a SUM or a TEST comes to, by a stack. */
    private static final class Reckoner {
        int value;
        private final long[] stack = new long[STACK_ROOM];

        /** Whether what begins there is not BROKEN; then value is what it comes to (of a TEST 1, 0). */
        boolean works(Text text, int from, int[] words) {
            int size = 0;
            int at = from;
            for (int step = 0; step < CODE_ROOM && at >= 0 && at < text.used; step++) {
                int op = text.code[at] / GOES_WITH;
                int with = text.code[at] % GOES_WITH;
                at++;
                if (op == NUMBER || op == WORD) {
                    if (size >= STACK_ROOM || (op == WORD && with >= words.length)) {
                        return false;
                    }
                    stack[size] = op == NUMBER ? with : words[with];
                    size++;
                } else if (size < 1) {
                    return false;
                } else if (op == STOP) {
                    value = (int) stack[size - 1];
                    return true;
                } else if (op == NOT) {
                    stack[size - 1] = 1 - stack[size - 1];
                } else if (op == SKIP_IF_SO || op == SKIP_IF_NOT) {
                    boolean so = stack[size - 1] != 0;
                    if (so == (op == SKIP_IF_SO)) {
                        at = with;
                    } else {
                        size--;
                    }
                } else if (size < 2) {
                    return false;
                } else {
                    size--;
                    long came = combine(op, stack[size - 1], stack[size]);
                    if (came > LIMIT || came < -LIMIT) {
                        return false;
                    }
                    stack[size - 1] = came;
                }
            }
            return false;
        }

        /** What two numbers come to; beyond the LIMIT, if it can't be. */
        private static long combine(int op, long a, long b) {
            switch (op) {
                case ADD:
                    return a + b;
                case SUBTRACT:
                    return a - b;
                case MULTIPLY:
                    return a * b;
                case DIVIDE:
                    return b == 0 ? LIMIT + 1 : a / b;
                case REST:
                    return b == 0 ? LIMIT + 1 : a % b;
                case BELOW:
                    return a < b ? 1 : 0;
                case ABOVE:
                    return a > b ? 1 : 0;
                default:
                    return a == b ? 1 : 0;
            }
        }
    }

    /** Tells what the law in force says of a claim at a place. */
    private static final class Judge {
        private final Reckoner reckoner = new Reckoner();
        private final int[] words = new int[LAW_WORDS];

        int countAt(Plank plank, int claim, int place) {
            ask(plank, claim, place);
            return lastTold(plank.textOf(plank.inForce), COUNTS, MOST_COUNTED, plank.heavy[claim]);
        }

        int shedAt(Plank plank, int claim, int place) {
            ask(plank, claim, place);
            return lastTold(plank.textOf(plank.inForce), SHEDS, MOST_SHED, 0);
        }

        boolean barsAt(Plank plank, int claim, int place) {
            Text law = plank.textOf(plank.inForce);
            if (law == null) {
                return false;
            }
            ask(plank, claim, place);
            for (int clause = 0; clause < law.clauses && clause < CLAUSES; clause++) {
                if (law.verb[clause] == BARS && holds(law, clause)) {
                    return true;
                }
            }
            return false;
        }

        /** TILT by a law (null: none), below 0 if the left side is down. */
        int tiltBy(Plank plank, Text law) {
            int tilt = 0;
            for (int claim = 0; claim < CLAIMS; claim++) {
                if (plank.isOn(claim)) {
                    int place = plank.place[claim];
                    ask(plank, claim, place);
                    tilt += (place - MIDDLE) * lastTold(law, COUNTS, MOST_COUNTED, plank.heavy[claim]);
                }
            }
            return tilt;
        }

        /** A DAY: how many are less heavy. No law asks of one claim about another, so each may shed at once. */
        int passDay(Plank plank) {
            Text law = plank.textOf(plank.inForce);
            int less = 0;
            for (int claim = 0; claim < CLAIMS; claim++) {
                if (plank.isOn(claim)) {
                    ask(plank, claim, plank.place[claim]);
                    int heavy = Math.max(1, plank.heavy[claim] - lastTold(law, SHEDS, MOST_SHED, 0));
                    if (heavy < plank.heavy[claim]) {
                        plank.heavy[claim] = heavy;
                        less++;
                    }
                }
            }
            plank.term[DAY]++;
            return less;
        }

        private void ask(Plank plank, int claim, int place) {
            words[0] = claim;
            words[1] = plank.heavy[claim];
            words[2] = plank.kind[claim];
            words[3] = place;
            words[4] = place - MIDDLE;
            words[5] = plank.term[DAY];
            words[6] = plank.term[MOOD];
            words[7] = plank.term[SLACK];
        }

        private int lastTold(Text law, int verb, int most, int without) {
            if (law == null) {
                return without;
            }
            for (int clause = Math.min(law.clauses, CLAUSES) - 1; clause >= 0; clause--) {
                if (law.verb[clause] == verb && holds(law, clause)
                        && reckoner.works(law, law.first[clause], words)) {
                    return Math.max(0, Math.min(most, reckoner.value));
                }
            }
            return without;
        }

        private boolean holds(Text law, int clause) {
            int test = law.test[clause];
            return test == NONE || (reckoner.works(law, test, words) && reckoner.value != 0);
        }
    }

    /**
     * The tape, and the reading of a text from it. At a fault the tape's end becomes the token at hand,
     * so that nothing more goes on and the first fault stays.
     */
    private static final class Reader {
        private static final int BLANK = 32;
        private static final int OTHER = 0;
        private static final int LETTER = 1;
        private static final int DIGIT = 2;

        int length;
        final int[] bytes = new int[TAPE_ROOM];
        int fault;
        final Text text = new Text(CODE_ROOM);
        private boolean ofLaws;
        private int start;
        private int behind;
        private int parts;
        private int depth;

        Reader() {
            fault = NONE;
        }

        void append(int four) {
            for (int shift = 24; shift >= 0 && length < TAPE_ROOM; shift -= 8) {
                bytes[length] = (four >>> shift) & 255;
                length++;
            }
        }

        /** Whether the tape, which is empty then, was a text of laws, else of orders. */
        boolean reads(boolean laws) {
            ofLaws = laws;
            fault = NONE;
            behind = 0;
            parts = 0;
            depth = 0;
            text.used = 0;
            advance();
            boolean more = true;
            for (int clause = 0; clause < CLAUSES && more; clause++) {
                text.clauses = clause + 1;
                text.times[clause] = 1;
                if (ofLaws) {
                    readRule(clause);
                } else {
                    readOrder(clause);
                }
                readIf(clause);
                more = accepts(";");
            }
            if (more || start < length) {
                fail();
            }
            length = 0;
            return fault == NONE;
        }

        private void fail() {
            if (fault == NONE) {
                fault = start;
            }
            start = length;
            behind = length;
        }

        private void advance() {
            start = behind;
            for (int i = 0; i < TAPE_ROOM && start < length && bytes[start] == BLANK; i++) {
                start++;
            }
            behind = start;
            if (start < length) {
                int sort = sortOf(bytes[start]);
                behind++;
                for (int i = 0; i < TAPE_ROOM && sort != OTHER && behind < length; i++) {
                    if (sortOf(bytes[behind]) != sort) {
                        break;
                    }
                    behind++;
                }
            }
        }

        private static int sortOf(int sign) {
            if (sign >= 'a' && sign <= 'z') {
                return LETTER;
            }
            return sign >= '0' && sign <= '9' ? DIGIT : OTHER;
        }

        private boolean isToken(String token) {
            if (behind - start != token.length()) {
                return false;
            }
            for (int i = 0; i < token.length(); i++) {
                if (bytes[start + i] != token.charAt(i)) {
                    return false;
                }
            }
            return true;
        }

        private boolean accepts(String token) {
            if (!isToken(token)) {
                return false;
            }
            advance();
            return true;
        }

        private void expect(String token) {
            if (!accepts(token)) {
                fail();
            }
        }

        /** The number at hand; NONE if it is none, or not among these. */
        private int numberFrom(int low, int high) {
            if (start >= length || sortOf(bytes[start]) != DIGIT) {
                return NONE;
            }
            int number = 0;
            for (int i = start; i < behind; i++) {
                number = Math.min(number * 10 + bytes[i] - '0', MOST_NUMBER + 1);
            }
            return number >= low && number <= high ? number : NONE;
        }

        /** As numberFrom; it must be there, and is read over. */
        private int expectNumber(int low, int high) {
            int number = numberFrom(low, high);
            if (number == NONE) {
                fail();
            } else {
                advance();
            }
            return number;
        }

        private void emit(int op, int with) {
            if (text.used < CODE_ROOM) {
                text.code[text.used] = op * GOES_WITH + with;
                text.used++;
            } else {
                fail();
            }
        }

        /** The jump emitted there leads to what comes next. */
        private void leadHere(int jump, int op) {
            if (jump < CODE_ROOM) {
                text.code[jump] = op * GOES_WITH + text.used;
            }
        }

        private void readRule(int clause) {
            if (accepts("counts")) {
                text.verb[clause] = COUNTS;
                text.first[clause] = placeOfSum();
            } else if (accepts("sheds")) {
                text.verb[clause] = SHEDS;
                text.first[clause] = placeOfSum();
            } else {
                expect("bars");
                text.verb[clause] = BARS;
            }
        }

        private void readOrder(int clause) {
            if (accepts("put")) {
                text.verb[clause] = PUT;
                text.first[clause] = placeOfSum();
                expect("at");
                text.second[clause] = placeOfSum();
            } else if (accepts("take")) {
                text.verb[clause] = TAKE;
                text.first[clause] = placeOfSum();
            } else if (accepts("pad")) {
                text.verb[clause] = PAD;
                text.first[clause] = placeOfSum();
                expect("to");
                text.second[clause] = placeOfSum();
            } else {
                expect("pass");
                text.verb[clause] = PASS;
            }
            if (accepts("times")) {
                text.times[clause] = expectNumber(1, MOST_TIMES);
            }
        }

        private int placeOfSum() {
            int place = text.used;
            readSum();
            emit(STOP, 0);
            return place;
        }

        private void readIf(int clause) {
            text.test[clause] = NONE;
            if (accepts("if")) {
                text.test[clause] = text.used;
                readTest();
                emit(STOP, 0);
            }
        }

        private void readTest() {
            readBoth();
            for (int i = 0; i < TAPE_ROOM && accepts("or"); i++) {
                int jump = text.used;
                emit(SKIP_IF_SO, 0);
                readBoth();
                leadHere(jump, SKIP_IF_SO);
            }
        }

        private void readBoth() {
            readPlain();
            for (int i = 0; i < TAPE_ROOM && accepts("and"); i++) {
                int jump = text.used;
                emit(SKIP_IF_NOT, 0);
                readPlain();
                leadHere(jump, SKIP_IF_NOT);
            }
        }

        private void readPlain() {
            boolean turned = false;
            for (int i = 0; i < TAPE_ROOM && accepts("not"); i++) {
                turned = !turned;
            }
            if (isToken("(")) {
                if (opens()) {
                    readTest();
                    closes(")");
                }
            } else {
                readSum();
                int op = isToken("<") ? BELOW : isToken(">") ? ABOVE : SAME;
                expect(op == BELOW ? "<" : op == ABOVE ? ">" : "=");
                readSum();
                emit(op, 0);
            }
            if (turned) {
                emit(NOT, 0);
            }
        }

        private void readSum() {
            readTerm();
            for (int i = 0; i < TAPE_ROOM && (isToken("+") || isToken("-")); i++) {
                int op = isToken("+") ? ADD : SUBTRACT;
                advance();
                readTerm();
                emit(op, 0);
            }
        }

        private void readTerm() {
            readPart();
            for (int i = 0; i < TAPE_ROOM && (isToken("*") || isToken("/") || isToken("%")); i++) {
                int op = isToken("*") ? MULTIPLY : isToken("/") ? DIVIDE : REST;
                advance();
                readPart();
                emit(op, 0);
            }
        }

        private void readPart() {
            if (isToken("[")) {
                if (opens()) {
                    readSum();
                    closes("]");
                }
                return;
            }
            int number = numberFrom(0, MOST_NUMBER);
            int word = ofLaws ? lawWord() : orderWord();
            if ((number == NONE && word == NONE) || parts >= PARTS) {
                fail();
                return;
            }
            parts++;
            advance();
            if (number != NONE) {
                emit(NUMBER, number);
            } else if (!ofLaws && (word == WORD_HEAVY || word == WORD_AT)) {
                emit(WORD, word + Math.max(0, expectNumber(0, CLAIMS - 1)));
            } else {
                emit(WORD, word);
            }
        }

        private boolean opens() {
            if (depth >= BRACKETS) {
                fail();
                return false;
            }
            depth++;
            advance();
            return true;
        }

        private void closes(String bracket) {
            // Not by expect: calls beside the recursion would go ten deep.
            if (isToken(bracket)) {
                advance();
            } else {
                fail();
            }
            depth--;
        }

        private int lawWord() {
            if (isToken("claim")) {
                return 0;
            }
            if (isToken("heavy")) {
                return 1;
            }
            if (isToken("kind")) {
                return 2;
            }
            if (isToken("place")) {
                return 3;
            }
            if (isToken("arm")) {
                return 4;
            }
            if (isToken("day")) {
                return 5;
            }
            if (isToken("mood")) {
                return 6;
            }
            return isToken("slack") ? 7 : NONE;
        }

        private int orderWord() {
            if (isToken("day")) {
                return WORD_DAY;
            }
            if (isToken("done")) {
                return WORD_DONE;
            }
            if (isToken("latest")) {
                return WORD_LATEST;
            }
            if (isToken("tilt")) {
                return WORD_TILT;
            }
            if (isToken("on")) {
                return WORD_ON;
            }
            if (isToken("heavy")) {
                return WORD_HEAVY;
            }
            return isToken("at") ? WORD_AT : NONE;
        }
    }

    /**
     * Rows of one choice for each claim, sought by their weights and costs together. What the last three
     * claims can come to is tallied once, so that only the choices of the first four are gone through.
     */
    private static final class Rows {
        private static final int HEADS = 4;
        private static final int TAILS = CLAIMS - HEADS;
        private static final int MOST_OF_ONE = MOST_COUNTED * MIDDLE;
        private static final int MOST_OF_TAILS = MOST_OF_ONE * TAILS;
        private static final int MOST_OF_ALL = MOST_OF_ONE * CLAIMS;
        private static final int TALLY = 2 * MOST_OF_TAILS + 2;

        final int[] first = new int[CLAIMS];
        private final int[] choices = new int[CLAIMS];
        private final int[][] place = new int[CLAIMS][PLACES];
        private final int[][] weight = new int[CLAIMS][PLACES];
        private final int[][] cost = new int[CLAIMS][PLACES];
        // By cost: how many choices of the tails weigh less than the index less MOST_OF_TAILS.
        private final int[][] below = new int[TAILS + 1][TALLY];
        private int price;
        private int bound;

        void clear() {
            Arrays.fill(choices, 0);
        }

        void offer(int claim, int where, int weighs, int costs) {
            int choice = choices[claim];
            if (choice < PLACES) {
                place[claim][choice] = where;
                weight[claim][choice] = weighs;
                cost[claim][choice] = costs;
                choices[claim] = choice + 1;
            }
        }

        void tallyTails() {
            for (int costs = 0; costs <= TAILS; costs++) {
                Arrays.fill(below[costs], 0);
            }
            tallyFrom(HEADS, 0, 0);
            for (int costs = 0; costs <= TAILS; costs++) {
                for (int i = 1; i < TALLY; i++) {
                    below[costs][i] += below[costs][i - 1];
                }
            }
        }

        private void tallyFrom(int claim, int weighs, int costs) {
            if (claim >= CLAIMS) {
                int at = weighs + MOST_OF_TAILS + 1;
                if (at > 0 && at < TALLY && costs >= 0 && costs <= TAILS) {
                    below[costs][at]++;
                }
                return;
            }
            for (int i = 0; i < choices[claim]; i++) {
                tallyFrom(claim + 1, weighs + weight[claim][i], costs + cost[claim][i]);
            }
        }

        /** How many rows of that cost weigh no more than that either way. */
        int howMany(int ofCost, int atMost) {
            price = ofCost;
            bound = atMost;
            return manyFrom(0, 0, 0);
        }

        private int manyFrom(int claim, int weighs, int costs) {
            if (claim >= HEADS) {
                return manyTails(weighs, costs);
            }
            int many = 0;
            for (int i = 0; i < choices[claim]; i++) {
                many += manyFrom(claim + 1, weighs + weight[claim][i], costs + cost[claim][i]);
            }
            return many;
        }

        private int manyTails(int weighs, int costs) {
            int left = price - costs;
            int low = Math.max(-bound - weighs, -MOST_OF_TAILS) + MOST_OF_TAILS;
            int high = Math.min(bound - weighs, MOST_OF_TAILS) + MOST_OF_TAILS + 1;
            if (left < 0 || left > TAILS || low < 0 || low >= high || high >= TALLY) {
                return 0;
            }
            return below[left][high] - below[left][low];
        }

        /** Whether there is a row of that cost that weighs no more than that either way; then first is the first. */
        boolean finds(int ofCost, int atMost) {
            price = ofCost;
            bound = atMost;
            return findsFrom(0, 0, 0);
        }

        private boolean findsFrom(int claim, int weighs, int costs) {
            if (claim >= CLAIMS) {
                return costs == price && Math.abs(weighs) <= bound;
            }
            if (claim == HEADS && manyTails(weighs, costs) == 0) {
                return false;
            }
            for (int i = 0; i < choices[claim]; i++) {
                first[claim] = place[claim][i];
                if (findsFrom(claim + 1, weighs + weight[claim][i], costs + cost[claim][i])) {
                    return true;
                }
            }
            return false;
        }

        /** The least that a row without cost weighs either way; NONE if there is no row. */
        int leastWeight() {
            if (!finds(0, MOST_OF_ALL)) {
                return NONE;
            }
            int low = 0;
            int high = MOST_OF_ALL;
            for (int i = 0; i < 32 && low < high; i++) {
                int middle = (low + high) / 2;
                if (finds(0, middle)) {
                    high = middle;
                } else {
                    low = middle + 1;
                }
            }
            return low;
        }
    }
}
