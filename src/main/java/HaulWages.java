/** Pay day in the loading bay of a town: wages are what one can carry away while the hooter goes. */
public final class HaulWages {
    public static final int BAD = -1, STATE = -2, FULL = -3, NONE = -4;

    private static final int PLAIN = 0, AWKWARD = 1, FEATHER = 2, CRATE = 3;
    private static final int MOST_GOODS = 8, MOST_ONES = 4, MOST_SEEN = 6;
    private static final int MOST_WEIGHT = 9, MOST_WORTH = 9, MOST_STRENGTH = 20, MOST_WAGES = 999;
    private static final int MOST_HOOTER = 6, MOST_BRINGS = 8, FIRST_HOOTER = 2, FIRST_BRINGS = 2;
    private static final int MOST_WEEK = 999, MOST_WEEKS_RUN = 30, MOST_WEEKS_AHEAD = 60;
    private static final int MOST_WEEKS_ILL = 2, MOST_WEEKS_SEEN = 20;
    private static final int TAPE_BYTES = 160, IMAGES = 2, SHEETS = 4, LANES = 3, MOST_CELLS = 40, MOST_READ = 13;
    private static final int NULL_FAULT = 1, INDEX_FAULT = 2, CAST_FAULT = 3, SIZE_FAULT = 4;
    private static final int NOBODY_ILL = 0, TENTHS = 10;

    private final Town now = new Town();
    // What would be is played here, so that what there is stays; made once, used by every call.
    private final Town trial = new Town();
    private final Town halfway = new Town();
    private final Town[] images = new Town[IMAGES];
    private final boolean[] kept = new boolean[IMAGES];
    private final Tape tape = new Tape();
    private final Sheet[] sheets = new Sheet[SHEETS];
    private final Sight[] seen = new Sight[MOST_SEEN];
    // WAGES by STRENGTH (row), by WEEKS and ONE (column): what ask() compares.
    private final int[][] foretold = new int[MOST_STRENGTH + 1][(MOST_WEEKS_SEEN + 1) * MOST_ONES];
    private int seenCount = 0;
    private int latestFault = 0;
    private int latestTorn = 0;

    public HaulWages() {
        for (int k = 0; k < IMAGES; k++) {
            images[k] = new Town();
        }
        for (int k = 0; k < SHEETS; k++) {
            sheets[k] = new Sheet();
        }
        for (int i = 0; i < MOST_SEEN; i++) {
            seen[i] = new Sight();
        }
    }

    // ---- the text, what there is

    public int feed(int c) {
        if (!within(c, 0, 127)) {
            return BAD;
        }
        if (tape.length >= TAPE_BYTES) {
            return FULL;
        }
        tape.bytes[tape.length] = c;
        tape.length++;
        return tape.length;
    }

    public int end(int n) {
        int had = tape.length;
        if (!within(n, 0, had)) {
            return BAD;
        }
        tape.length = n;
        return had;
    }

    public int text() {
        int lines = tape.tellAll(trial);
        tape.length = 0;
        latestFault = tape.fault;
        if (latestFault != 0) {
            return -10 - tape.faultPlace;
        }
        now.copyFrom(trial);
        seenCount = 0;
        for (int k = 0; k < IMAGES; k++) {
            kept[k] = false;
        }
        return lines;
    }

    public int fault() {
        return latestFault;
    }

    public int rule(int what) {
        switch (what) {
            case 0: return now.goodCount;
            case 1: return now.oneCount;
            case 2: return now.week;
            case 3: return now.hooter;
            case 4: return now.brings;
            case 5: return now.storeBits();
            case 6: return now.wagesOfAll();
            default: return BAD;
        }
    }

    public int good(int g, int what) {
        if (!isGood(g)) {
            return BAD;
        }
        Good good = now.goods[g];
        switch (what) {
            case 0: return good.kind;
            case 1: return good.weight;
            case 2: return good.worth;
            case 3: return good.taken ? 1 : 0;
            case 4: return good.heft;
            case 5: return good.pays;
            default: return BAD;
        }
    }

    public int one(int p, int what) {
        if (!isOne(p) || !within(what, 0, 3)) {
            return BAD;
        }
        if (what == 0) {
            return now.ones[p].strength;
        }
        if (what == 1) {
            return now.ones[p].wages;
        }
        trial.copyFrom(now);
        trial.carryOut(NOBODY_ILL);
        return what == 2 ? trial.ones[p].armful : trial.ones[p].load;
    }

    // ---- what is changed

    public int alter(int g, int what, int v) {
        if (!isGood(g)) {
            return BAD;
        }
        Good good = now.goods[g];
        int was = BAD;
        if (what == 0 && isKind(v)) {
            was = good.kind;
            good.become(v, good.weight, good.worth);
        } else if (what == 1 && isWeight(v)) {
            was = good.weight;
            good.become(good.kind, v, good.worth);
        } else if (what == 2 && isWorth(v)) {
            was = good.worth;
            good.become(good.kind, good.weight, v);
        }
        return was;
    }

    public int train(int p, int what, int v) {
        if (!isOne(p)) {
            return BAD;
        }
        One one = now.ones[p];
        int was = BAD;
        if (what == 0 && within(v, 1, MOST_STRENGTH)) {
            was = one.strength;
            one.strength = v;
        } else if (what == 1 && within(v, 0, MOST_WAGES)) {
            was = one.wages;
            one.wages = v;
        }
        return was;
    }

    public int set(int what, int v) {
        int was = BAD;
        if (what == 0 && within(v, 0, MOST_HOOTER)) {
            was = now.hooter;
            now.hooter = v;
        } else if (what == 1 && within(v, 0, MOST_BRINGS)) {
            was = now.brings;
            now.brings = v;
        }
        return was;
    }

    public int stock(int kind, int weight, int worth) {
        if (!isKind(kind) || !isWeight(weight) || !isWorth(worth)) {
            return BAD;
        }
        if (now.goodCount >= MOST_GOODS) {
            return FULL;
        }
        now.addGood(kind, weight, worth);
        return now.goodCount;
    }

    public int hide(int g) {
        if (!isGood(g)) {
            return BAD;
        }
        if (now.goods[g].taken) {
            return STATE;
        }
        now.goods[g].taken = true;
        return 1;
    }

    public int fill() {
        return now.bringBack(MOST_GOODS);
    }

    // ---- weeks

    public int weeks(int n) {
        if (!within(n, 0, MOST_WEEKS_RUN)) {
            return BAD;
        }
        if (now.week + n > MOST_WEEK) {
            return FULL;
        }
        int before = now.wagesOfAll();
        now.passWeeks(n);
        return now.wagesOfAll() - before;
    }

    public int runs(int n, int what) {
        if (!within(n, 0, MOST_WEEKS_AHEAD) || !within(what, 0, 4)) {
            return BAD;
        }
        trial.copyFrom(now);
        trial.passWeeks(n);
        switch (what) {
            case 0: return trial.wagesOfAll() - now.wagesOfAll();
            case 1: return trial.storeBits();
            case 2: return trial.bents;
            case 3: return trial.takings;
            default: return trial.leastWages();
        }
    }

    public int ahead(int p, int n, int what) {
        if (!isOne(p) || !within(n, 0, MOST_WEEKS_AHEAD) || !within(what, 0, 1)) {
            return BAD;
        }
        trial.copyFrom(now);
        trial.passWeeks(n);
        return what == 0 ? trial.ones[p].wages : trial.ones[p].strength;
    }

    public int gone(int g) {
        if (!isGood(g)) {
            return BAD;
        }
        trial.copyFrom(now);
        for (int w = 0; w <= MOST_WEEKS_AHEAD; w++) {
            trial.passWeek(NOBODY_ILL);
            if (hasBit(trial.grabbed, g)) {
                return w;
            }
        }
        return NONE;
    }

    public int rich(int p, int v) {
        if (!isOne(p) || !within(v, 0, MOST_WAGES)) {
            return BAD;
        }
        trial.copyFrom(now);
        for (int w = 0; w <= MOST_WEEKS_AHEAD; w++) {
            if (trial.ones[p].wages >= v) {
                return w;
            }
            trial.passWeek(NOBODY_ILL);
        }
        return NONE;
    }

    // ---- what is best

    public int arms(int p, int what) {
        if (!isOne(p) || !within(what, 0, 2)) {
            return BAD;
        }
        int store = now.storeBits();
        int best = 0;
        int most = 0;
        for (int bits = 1; bits <= store; bits++) {
            if ((bits & ~store) == 0 && now.heftOf(bits) <= now.ones[p].strength && now.paysOf(bits) > most) {
                best = bits;
                most = now.paysOf(bits);
            }
        }
        switch (what) {
            case 0: return best;
            case 1: return most;
            default: return now.heftOf(best);
        }
    }

    public int need(int p, int g) {
        if (!isOne(p) || !isGood(g)) {
            return BAD;
        }
        for (int s = 1; s <= MOST_STRENGTH; s++) {
            trial.copyFrom(now);
            trial.ones[p].strength = s;
            trial.carryOut(NOBODY_ILL);
            if (hasBit(trial.ones[p].armful, g)) {
                return s;
            }
        }
        return NONE;
    }

    public int fair(int n, int what) {
        if (!within(n, 0, MOST_WEEKS_AHEAD) || !within(what, 0, 1)) {
            return BAD;
        }
        if (now.oneCount == 0) {
            return STATE;
        }
        int best = 0;
        int most = -1;
        for (int h = 0; h <= MOST_HOOTER; h++) {
            trial.copyFrom(now);
            trial.hooter = h;
            trial.passWeeks(n);
            if (trial.leastWages() > most) {
                best = h;
                most = trial.leastWages();
            }
        }
        return what == 0 ? best : most;
    }

    public int swap(int n, int what) {
        if (!within(n, 0, MOST_WEEKS_AHEAD) || !within(what, 0, 1)) {
            return BAD;
        }
        int best = NONE;
        int most = wagesAsItIs(n);
        for (int p = 0; p < now.oneCount; p++) {
            for (int q = p + 1; q < now.oneCount; q++) {
                trial.copyFrom(now);
                trial.changePlaces(p, q);
                trial.passWeeks(n);
                if (trial.wagesOfAll() > most) {
                    best = 10 * p + q;
                    most = trial.wagesOfAll();
                }
            }
        }
        return bestOrMore(best, most, what);
    }

    public int lose(int n, int what) {
        if (!within(n, 0, MOST_WEEKS_AHEAD) || !within(what, 0, 1)) {
            return BAD;
        }
        int best = NONE;
        int most = wagesAsItIs(n);
        for (int g = 0; g < now.goodCount; g++) {
            if (!now.goods[g].taken) {
                trial.copyFrom(now);
                trial.goods[g].taken = true;
                trial.passWeeks(n);
                if (trial.wagesOfAll() > most) {
                    best = g;
                    most = trial.wagesOfAll();
                }
            }
        }
        return bestOrMore(best, most, what);
    }

    public int price(int g) {
        if (!isGood(g)) {
            return BAD;
        }
        for (int worth = 0; worth <= MOST_WORTH; worth++) {
            trial.copyFrom(now);
            trial.goods[g].become(now.goods[g].kind, now.goods[g].weight, worth);
            trial.carryOut(NOBODY_ILL);
            if (hasBit(trial.grabbed, g)) {
                return worth;
            }
        }
        return NONE;
    }

    public int kind(int g, int n, int what) {
        if (!isGood(g) || !within(n, 0, MOST_WEEKS_AHEAD) || !within(what, 0, 1)) {
            return BAD;
        }
        int best = NONE;
        int most = -1;
        for (int k = PLAIN; k <= CRATE; k++) {
            tryKind(g, k);
            trial.passWeeks(n);
            if (trial.wagesOfAll() > most) {
                best = k;
                most = trial.wagesOfAll();
            }
        }
        return bestOrMore(best, most, what);
    }

    // ---- illness

    public long luck(int v, int g, int what) {
        if (!within(v, 0, TENTHS) || !isGood(g) || !within(what, 0, 1)) {
            return BAD;
        }
        long ways = 0;
        for (int ill = 0; ill < illnesses(); ill++) {
            trial.copyFrom(now);
            trial.carryOut(ill);
            if (hasBit(trial.grabbed, g)) {
                ways += waysOfIllness(v, ill);
            }
        }
        return partOfFraction(ways, allWaysOfIllness(), what);
    }

    public long mean(int v, int n, int what) {
        if (!within(v, 0, TENTHS) || !within(n, 0, MOST_WEEKS_ILL) || !within(what, 0, 1)) {
            return BAD;
        }
        long sum = 0;
        long all = 1;
        if (n == 1) {
            sum = gainsBehindWeek(now, v);
            all = allWaysOfIllness();
        } else if (n == 2) {
            sum = gainsBehindTwoWeeks(v);
            all = allWaysOfIllness() * allWaysOfIllness();
        }
        return partOfFraction(sum, all, what);
    }

    // ---- what it was

    public int see(int n, int p, int v) {
        if (!within(n, 0, MOST_WEEKS_SEEN) || !isOne(p) || !within(v, 0, MOST_WAGES)) {
            return BAD;
        }
        if (seenCount >= MOST_SEEN) {
            return FULL;
        }
        seen[seenCount].behind = n;
        seen[seenCount].who = p;
        seen[seenCount].wages = v;
        seenCount++;
        return seenCount;
    }

    public int forget(int n) {
        int were = seenCount;
        if (!within(n, 0, were)) {
            return BAD;
        }
        seenCount = n;
        return were;
    }

    public int kinds(int g) {
        if (!isGood(g)) {
            return BAD;
        }
        int bits = 0;
        for (int k = PLAIN; k <= CRATE; k++) {
            tryKind(g, k);
            if (trialGoesAsSeen()) {
                bits |= 1 << k;
            }
        }
        return bits;
    }

    public int weights(int g) {
        if (!isGood(g)) {
            return BAD;
        }
        int bits = 0;
        for (int weight = 1; weight <= MOST_WEIGHT; weight++) {
            trial.copyFrom(now);
            trial.goods[g].become(now.goods[g].kind, weight, now.goods[g].worth);
            if (trialGoesAsSeen()) {
                bits |= 1 << weight;
            }
        }
        return bits;
    }

    public int strengths(int p) {
        if (!isOne(p)) {
            return BAD;
        }
        return strengthsAsSeen(p);
    }

    public int ask(int p, int what) {
        if (!isOne(p) || !within(what, 0, 1)) {
            return BAD;
        }
        int candidates = strengthsAsSeen(p);
        foretell(p, candidates);
        int best = NONE;
        int fewest = Integer.bitCount(candidates);
        for (int w = 0; w <= MOST_WEEKS_SEEN; w++) {
            for (int q = 0; q < now.oneCount; q++) {
                int left = mostAlike(candidates, w * MOST_ONES + q);
                if (left < fewest) {
                    best = 10 * w + q;
                    fewest = left;
                }
            }
        }
        if (best == NONE) {
            return NONE;
        }
        return what == 0 ? best : fewest;
    }

    // ---- by a seed

    public int drift(int seed, int n, int what) {
        if (!within(n, 1, MOST_WEEKS_AHEAD) || !within(what, 0, 1)) {
            return BAD;
        }
        if (now.goodCount == 0) {
            return STATE;
        }
        trial.copyFrom(now);
        int next = seed;
        for (int w = 0; w < n; w++) {
            next = next * 1103515245 + 12345;
            int got = (next >>> 16) & 0x7fff;
            Good good = trial.goods[got / 8 % now.goodCount];
            good.become(good.kind, 1 + got / 64 % 9, good.worth);
            trial.hooter = got % 7;
            trial.passWeek(NOBODY_ILL);
        }
        return what == 0 ? trial.wagesOfAll() - now.wagesOfAll() : trial.bents;
    }

    // ---- images, sheets

    public int keep(int k) {
        if (!within(k, 0, IMAGES - 1)) {
            return BAD;
        }
        int was = kept[k] ? 1 : 0;
        images[k].copyFrom(now);
        kept[k] = true;
        return was;
    }

    public int back(int k) {
        if (!within(k, 0, IMAGES - 1)) {
            return BAD;
        }
        if (!kept[k]) {
            return STATE;
        }
        now.copyFrom(images[k]);
        return now.week;
    }

    public int sheet(int k, int lane, int n) {
        if (!isSheet(k) || !isLane(lane) || n > MOST_CELLS) {
            return BAD;
        }
        if (n < 0) {
            return -10 - SIZE_FAULT;
        }
        sheets[k].becomeRow(lane, n);
        return 1;
    }

    public int lay(int k, int i, int v) {
        if (!isSheet(k)) {
            return BAD;
        }
        int found = sheets[k].faultOfCells(sheets[k].lane, i, 1);
        if (found != 0) {
            return -10 - found;
        }
        sheets[k].putCell(i, v);
        return 1;
    }

    public int read(int k, int lane, int f, int n) {
        if (!isSheet(k) || !isLane(lane) || !within(n, 0, MOST_READ)) {
            return BAD;
        }
        Sheet from = sheets[k];
        int before = now.goodCount;
        for (int i = 0; i < n; i++) {
            int first = f + 3 * i;
            int found = from.faultOfCells(lane, first, 3);
            if (found != 0) {
                latestTorn = found;
                return i;
            }
            if (stock(from.cells[first], from.cells[first + 1], from.cells[first + 2]) < 0) {
                now.goodCount = before;
                return -20 - i;
            }
        }
        latestTorn = 0;
        return n;
    }

    public int torn() {
        return latestTorn;
    }

    public int count(int what) {
        switch (what) {
            case 0: return seenCount;
            case 1: return keptImages();
            case 2: return tape.length;
            case 3: return sheets[0].lane == Sheet.NOTHING ? NONE : sheets[0].size;
            case 4: return now.worthOfAll();
            case 5: return now.strengthOfAll();
            default: return BAD;
        }
    }

    // ---- what the calls share

    private static boolean within(int v, int least, int most) {
        return v >= least && v <= most;
    }

    private static boolean hasBit(int bits, int i) {
        return (bits >> i & 1) == 1;
    }

    private static boolean isKind(int v) {
        return within(v, PLAIN, CRATE);
    }

    private static boolean isWeight(int v) {
        return within(v, 1, MOST_WEIGHT);
    }

    private static boolean isWorth(int v) {
        return within(v, 0, MOST_WORTH);
    }

    private static boolean isSheet(int k) {
        return within(k, 0, SHEETS - 1);
    }

    private static boolean isLane(int lane) {
        return within(lane, 0, LANES - 1);
    }

    private boolean isGood(int g) {
        return within(g, 0, now.goodCount - 1);
    }

    private boolean isOne(int p) {
        return within(p, 0, now.oneCount - 1);
    }

    private int keptImages() {
        int n = 0;
        for (int k = 0; k < IMAGES; k++) {
            if (kept[k]) {
                n++;
            }
        }
        return n;
    }

    private int wagesAsItIs(int n) {
        trial.copyFrom(now);
        trial.passWeeks(n);
        return trial.wagesOfAll();
    }

    private int bestOrMore(int best, int most, int what) {
        if (best == NONE) {
            return NONE;
        }
        return what == 0 ? best : most - now.wagesOfAll();
    }

    private void tryKind(int g, int k) {
        trial.copyFrom(now);
        trial.goods[g].become(k, now.goods[g].weight, now.goods[g].worth);
    }

    /** How many sets of PEOPLE there are who may be ill, a set being bits. */
    private int illnesses() {
        return 1 << now.oneCount;
    }

    /** Of all ways, ten for each ONE, those in which just these are ill. */
    private long waysOfIllness(int v, int ill) {
        long ways = 1;
        for (int p = 0; p < now.oneCount; p++) {
            ways *= hasBit(ill, p) ? v : TENTHS - v;
        }
        return ways;
    }

    private long allWaysOfIllness() {
        long ways = 1;
        for (int p = 0; p < now.oneCount; p++) {
            ways *= TENTHS;
        }
        return ways;
    }

    /** By how much WAGES of all are more than now, a WEEK behind that town, summed over all ways of illness. */
    private long gainsBehindWeek(Town from, int v) {
        long sum = 0;
        for (int ill = 0; ill < illnesses(); ill++) {
            long ways = waysOfIllness(v, ill);
            if (ways != 0) {
                trial.copyFrom(from);
                trial.passWeek(ill);
                sum += ways * (trial.wagesOfAll() - now.wagesOfAll());
            }
        }
        return sum;
    }

    private long gainsBehindTwoWeeks(int v) {
        long sum = 0;
        for (int ill = 0; ill < illnesses(); ill++) {
            long ways = waysOfIllness(v, ill);
            if (ways != 0) {
                halfway.copyFrom(now);
                halfway.passWeek(ill);
                sum += ways * gainsBehindWeek(halfway, v);
            }
        }
        return sum;
    }

    private static long partOfFraction(long numerator, long denominator, int what) {
        long divisor = commonDivisor(numerator, denominator);
        if (divisor == 0) {
            return 0;
        }
        return (what == 0 ? numerator : denominator) / divisor;
    }

    private static long commonDivisor(long a, long b) {
        long more = a;
        long less = b;
        // Euclid needs fewer than 100 steps for any two longs; the bound is only for the eye.
        for (int step = 0; step < 100 && less != 0; step++) {
            long rest = more % less;
            more = less;
            less = rest;
        }
        return more;
    }

    /** Plays the trial on, as far as anything is SEEN. */
    private boolean trialGoesAsSeen() {
        int last = lastWeekSeen();
        for (int w = 0; w < last; w++) {
            if (!trialIsAsSeen(w)) {
                return false;
            }
            trial.passWeek(NOBODY_ILL);
        }
        return trialIsAsSeen(last);
    }

    private boolean trialIsAsSeen(int behind) {
        for (int i = 0; i < seenCount; i++) {
            Sight sight = seen[i];
            if (sight.behind == behind && trial.ones[sight.who].wages != sight.wages) {
                return false;
            }
        }
        return true;
    }

    private int lastWeekSeen() {
        int last = 0;
        for (int i = 0; i < seenCount; i++) {
            last = Math.max(last, seen[i].behind);
        }
        return last;
    }

    private int strengthsAsSeen(int p) {
        int bits = 0;
        for (int s = 1; s <= MOST_STRENGTH; s++) {
            trial.copyFrom(now);
            trial.ones[p].strength = s;
            if (trialGoesAsSeen()) {
                bits |= 1 << s;
            }
        }
        return bits;
    }

    private void foretell(int p, int candidates) {
        for (int s = 1; s <= MOST_STRENGTH; s++) {
            if (hasBit(candidates, s)) {
                trial.copyFrom(now);
                trial.ones[p].strength = s;
                foretellRow(s);
            }
        }
    }

    private void foretellRow(int s) {
        for (int w = 0; w <= MOST_WEEKS_SEEN; w++) {
            for (int q = 0; q < now.oneCount; q++) {
                foretold[s][w * MOST_ONES + q] = trial.ones[q].wages;
            }
            trial.passWeek(NOBODY_ILL);
        }
    }

    /** How many of the candidates are left at the worst, when the answer of that column is known. */
    private int mostAlike(int candidates, int column) {
        int most = 0;
        for (int s = 1; s <= MOST_STRENGTH; s++) {
            if (hasBit(candidates, s)) {
                most = Math.max(most, alikeFrom(s, candidates, column));
            }
        }
        return most;
    }

    /** Counts from s on alone: the least of those that are alike counts them all. */
    private int alikeFrom(int s, int candidates, int column) {
        int alike = 0;
        for (int t = s; t <= MOST_STRENGTH; t++) {
            if (hasBit(candidates, t) && foretold[t][column] == foretold[s][column]) {
                alike++;
            }
        }
        return alike;
    }

    private static final class Good {
        int kind = PLAIN;
        int weight = 1;
        int worth = 0;
        // Both follow from the three above; held, as each round of each WEEK looks at them.
        int heft = 1;
        int pays = 0;
        boolean taken = false;

        void become(int newKind, int newWeight, int newWorth) {
            kind = newKind;
            weight = newWeight;
            worth = newWorth;
            heft = heftByKind();
            pays = paysByKind();
        }

        void copyFrom(Good other) {
            kind = other.kind;
            weight = other.weight;
            worth = other.worth;
            heft = other.heft;
            pays = other.pays;
            taken = other.taken;
        }

        private int heftByKind() {
            switch (kind) {
                case AWKWARD: return 2 * weight;
                case FEATHER: return (weight + 1) / 2;
                case CRATE: return 2 * weight - 1;
                default: return weight;
            }
        }

        private int paysByKind() {
            switch (kind) {
                case FEATHER: return Math.max(0, worth - 2);
                case CRATE: return 2 * worth;
                default: return worth;
            }
        }
    }

    private static final class One {
        int strength = 1;
        int wages = 0;
        // ARMS in the latest WEEK: which GOODS (bits), their HEFT, what they PAY.
        int armful = 0;
        int load = 0;
        int pay = 0;

        void copyFrom(One other) {
            strength = other.strength;
            wages = other.wages;
        }

        void emptyArms() {
            armful = 0;
            load = 0;
            pay = 0;
        }

        boolean isBent() {
            return load == strength;
        }
    }

    /** All that an IMAGE keeps, and how a WEEK goes. */
    private static final class Town {
        final Good[] goods = new Good[MOST_GOODS];
        final One[] ones = new One[MOST_ONES];
        int goodCount = 0;
        int oneCount = 0;
        int hooter = FIRST_HOOTER;
        int brings = FIRST_BRINGS;
        int week = 0;
        // GOODS taken in the latest WEEK (bits).
        int grabbed = 0;
        // Counted since this town was copied from another.
        int bents = 0;
        int takings = 0;

        Town() {
            for (int g = 0; g < MOST_GOODS; g++) {
                goods[g] = new Good();
            }
            for (int p = 0; p < MOST_ONES; p++) {
                ones[p] = new One();
            }
        }

        void startAfresh() {
            goodCount = 0;
            oneCount = 0;
            hooter = FIRST_HOOTER;
            brings = FIRST_BRINGS;
            week = 0;
        }

        void copyFrom(Town other) {
            goodCount = other.goodCount;
            oneCount = other.oneCount;
            hooter = other.hooter;
            brings = other.brings;
            week = other.week;
            for (int g = 0; g < goodCount; g++) {
                goods[g].copyFrom(other.goods[g]);
            }
            for (int p = 0; p < oneCount; p++) {
                ones[p].copyFrom(other.ones[p]);
            }
            grabbed = 0;
            bents = 0;
            takings = 0;
        }

        void addGood(int kind, int weight, int worth) {
            if (goodCount < MOST_GOODS) {
                goods[goodCount].become(kind, weight, worth);
                goods[goodCount].taken = false;
                goodCount++;
            }
        }

        void addOne(int strength) {
            if (oneCount < MOST_ONES) {
                ones[oneCount].strength = strength;
                ones[oneCount].wages = 0;
                oneCount++;
            }
        }

        void changePlaces(int p, int q) {
            One one = ones[p];
            ones[p] = ones[q];
            ones[q] = one;
        }

        void passWeeks(int n) {
            for (int w = 0; w < n; w++) {
                passWeek(NOBODY_ILL);
            }
        }

        void passWeek(int ill) {
            carryOut(ill);
            payOut();
            bringBack(brings);
            week++;
        }

        /** The rounds alone: who takes what. Those who are ill (bits) take nothing. */
        void carryOut(int ill) {
            grabbed = 0;
            for (int p = 0; p < oneCount; p++) {
                ones[p].emptyArms();
            }
            // A round in which nobody takes anything leaves all as it was, and so would the later ones.
            boolean goesOn = true;
            for (int r = 0; r < hooter && goesOn; r++) {
                goesOn = false;
                for (int p = 0; p < oneCount; p++) {
                    if (!hasBit(ill, p) && takesBest(ones[p])) {
                        goesOn = true;
                    }
                }
            }
        }

        private boolean takesBest(One one) {
            int best = -1;
            int most = -1;
            int free = one.strength - one.load;
            for (int g = 0; g < goodCount; g++) {
                Good good = goods[g];
                if (!good.taken && good.heft <= free && good.pays > most) {
                    best = g;
                    most = good.pays;
                }
            }
            if (best < 0) {
                return false;
            }
            goods[best].taken = true;
            one.armful |= 1 << best;
            one.load += goods[best].heft;
            one.pay += most;
            grabbed |= 1 << best;
            takings++;
            return true;
        }

        private void payOut() {
            for (int p = 0; p < oneCount; p++) {
                One one = ones[p];
                one.wages = Math.min(MOST_WAGES, one.wages + one.pay);
                if (one.isBent()) {
                    one.strength = Math.max(1, one.strength - 1);
                    bents++;
                }
            }
        }

        /** The first GOODS that are TAKEN, so many at most, are in STORE again: how many these were. */
        int bringBack(int most) {
            int brought = 0;
            for (int g = 0; g < goodCount && brought < most; g++) {
                if (goods[g].taken) {
                    goods[g].taken = false;
                    brought++;
                }
            }
            return brought;
        }

        int storeBits() {
            int bits = 0;
            for (int g = 0; g < goodCount; g++) {
                if (!goods[g].taken) {
                    bits |= 1 << g;
                }
            }
            return bits;
        }

        int heftOf(int bits) {
            int sum = 0;
            for (int g = 0; g < goodCount; g++) {
                if (hasBit(bits, g)) {
                    sum += goods[g].heft;
                }
            }
            return sum;
        }

        int paysOf(int bits) {
            int sum = 0;
            for (int g = 0; g < goodCount; g++) {
                if (hasBit(bits, g)) {
                    sum += goods[g].pays;
                }
            }
            return sum;
        }

        int worthOfAll() {
            int sum = 0;
            for (int g = 0; g < goodCount; g++) {
                sum += goods[g].worth;
            }
            return sum;
        }

        int wagesOfAll() {
            int sum = 0;
            for (int p = 0; p < oneCount; p++) {
                sum += ones[p].wages;
            }
            return sum;
        }

        int strengthOfAll() {
            int sum = 0;
            for (int p = 0; p < oneCount; p++) {
                sum += ones[p].strength;
            }
            return sum;
        }

        int leastWages() {
            if (oneCount == 0) {
                return 0;
            }
            int least = ones[0].wages;
            for (int p = 1; p < oneCount; p++) {
                least = Math.min(least, ones[p].wages);
            }
            return least;
        }
    }

    /** Behind so many WEEKS, WAGES of that ONE. */
    private static final class Sight {
        int behind = 0;
        int who = 0;
        int wages = 0;
    }

    /** THE TAPE, and how it is read, TOKEN by TOKEN, into a town. */
    private static final class Tape {
        private static final int END = 0, NAME = 1, NUMBER = 2, SIGN = 3, NO_TOKEN = 4;
        private static final int NOT_A_TOKEN = 1, MISPLACED = 2, OUT_OF_BOUNDS = 3, SECOND_TIME = 4, TOO_MANY = 5;
        // The words up to CRATE are KINDS, by their numbers.
        private static final int ONE_WORD = 4, HOOTER_WORD = 5, BRINGS_WORD = 6, WORDS = 7;

        final int[] bytes = new int[TAPE_BYTES];
        int length = 0;
        private int place = 0;
        private int token = END;
        private int start = 0;
        private boolean hooterTold = false;
        private boolean bringsTold = false;
        int fault = 0;
        int faultPlace = 0;

        /** How many lines there are; what they tell is in the town, if there is no fault. */
        int tellAll(Town town) {
            town.startAfresh();
            place = 0;
            fault = 0;
            faultPlace = 0;
            hooterTold = false;
            bringsTold = false;
            int lines = 0;
            nextToken();
            // Each line takes bytes of THE TAPE, so there are fewer lines than bytes.
            while (fault == 0 && token != END && lines < TAPE_BYTES) {
                tellLine(town);
                lines++;
                nextToken();
            }
            return lines;
        }

        private void tellLine(Town town) {
            int word = token == NAME ? wordOfToken() : WORDS;
            refuseWord(word, town);
            if (fault != 0) {
                return;
            }
            if (word <= CRATE) {
                int weight = nextNumber(1, MOST_WEIGHT);
                int worth = nextNumber(0, MOST_WORTH);
                town.addGood(word, weight, worth);
            } else if (word == ONE_WORD) {
                town.addOne(nextNumber(1, MOST_STRENGTH));
            } else if (word == HOOTER_WORD) {
                hooterTold = true;
                town.hooter = nextNumber(0, MOST_HOOTER);
            } else if (word == BRINGS_WORD) {
                bringsTold = true;
                town.brings = nextNumber(0, MOST_BRINGS);
            }
            nextSign();
        }

        private void refuseWord(int word, Town town) {
            if (word == WORDS) {
                fail(MISPLACED);
            } else if (word == HOOTER_WORD && hooterTold || word == BRINGS_WORD && bringsTold) {
                fail(SECOND_TIME);
            } else if (word <= CRATE && town.goodCount >= MOST_GOODS) {
                fail(TOO_MANY);
            } else if (word == ONE_WORD && town.oneCount >= MOST_ONES) {
                fail(TOO_MANY);
            }
        }

        /** The first FAULT stays: behind it nothing is read any more. */
        private void fail(int found) {
            if (fault == 0) {
                fault = found;
                faultPlace = start;
            }
        }

        private int nextNumber(int least, int most) {
            nextToken();
            if (token != NUMBER) {
                fail(MISPLACED);
                return least;
            }
            int value = numberOfToken();
            if (!within(value, least, most)) {
                fail(OUT_OF_BOUNDS);
                return least;
            }
            return value;
        }

        private void nextSign() {
            nextToken();
            if (token != SIGN) {
                fail(MISPLACED);
            }
        }

        private void nextToken() {
            if (fault != 0) {
                return;
            }
            while (place < length && bytes[place] == ' ') {
                place++;
            }
            start = place;
            if (place >= length) {
                token = END;
            } else if (isLetter(bytes[place])) {
                token = NAME;
                skipLetters();
            } else if (isFigure(bytes[place])) {
                skipFigures();
                token = place - start > 2 ? NO_TOKEN : NUMBER;
            } else {
                token = bytes[place] == ';' ? SIGN : NO_TOKEN;
                place++;
            }
            if (token == NO_TOKEN) {
                fail(NOT_A_TOKEN);
            }
        }

        private void skipLetters() {
            while (place < length && isLetter(bytes[place])) {
                place++;
            }
        }

        private void skipFigures() {
            while (place < length && isFigure(bytes[place])) {
                place++;
            }
        }

        private static boolean isLetter(int c) {
            return c >= 'a' && c <= 'z';
        }

        private static boolean isFigure(int c) {
            return c >= '0' && c <= '9';
        }

        private int numberOfToken() {
            int value = 0;
            for (int i = start; i < place && i < TAPE_BYTES; i++) {
                value = 10 * value + bytes[i] - '0';
            }
            return value;
        }

        private int wordOfToken() {
            for (int word = 0; word < WORDS; word++) {
                if (tokenSpells(spelling(word))) {
                    return word;
                }
            }
            return WORDS;
        }

        private boolean tokenSpells(String name) {
            if (place - start != name.length()) {
                return false;
            }
            for (int i = 0; i < name.length(); i++) {
                if (bytes[start + i] != name.charAt(i)) {
                    return false;
                }
            }
            return true;
        }

        private static String spelling(int word) {
            switch (word) {
                case PLAIN: return "plain";
                case AWKWARD: return "awkward";
                case FEATHER: return "feather";
                case CRATE: return "crate";
                case ONE_WORD: return "one";
                case HOOTER_WORD: return "hooter";
                default: return "brings";
            }
        }
    }

    /** A row of CELLS of a lane, or nothing. */
    private static final class Sheet {
        static final int NOTHING = -1, BYTES = 0, SHORTS = 1;

        // One row is used again by each new SHEET: its lane's bits are cut off as they are laid.
        final int[] cells = new int[MOST_CELLS];
        int lane = NOTHING;
        int size = 0;

        void becomeRow(int newLane, int newSize) {
            lane = newLane;
            size = newSize;
            for (int i = 0; i < MOST_CELLS; i++) {
                cells[i] = 0;
            }
        }

        /** What the machine would find at so many CELLS from first on, of the row taken as of a lane; 0: nothing. */
        int faultOfCells(int asLane, int first, int many) {
            if (lane == NOTHING) {
                return NULL_FAULT;
            }
            if (lane != asLane) {
                return CAST_FAULT;
            }
            return within(first, 0, size - many) ? 0 : INDEX_FAULT;
        }

        void putCell(int i, int v) {
            if (lane == BYTES) {
                cells[i] = (byte) v;
            } else if (lane == SHORTS) {
                cells[i] = (short) v;
            } else {
                cells[i] = v;
            }
        }
    }
}
