/** The bounds that promises 27 to 35 name: luck, mean, see, forget, kinds, weights, strengths, ask, drift. */
public final class BoundsOfSeenTest {
    private static final int BAD = HaulWages.BAD, STATE = HaulWages.STATE, FULL = HaulWages.FULL, NONE = HaulWages.NONE;
    private static final int ALL_KINDS = 15, ALL_WEIGHTS = 1022, ALL_STRENGTHS = 2097150;
    // He takes 7 in each WEEK by any STRENGTH from 2 on; by 1 nothing.
    private static final String STEADY = "plain 2 7;one 9;one 1;brings 8;";

    public static void main(String[] args) {
        luckOdds();
        luckWhich();
        luckWhat();
        luckOfNobody();
        meanOdds();
        meanWeeks();
        meanWhat();
        meanOfNobody();
        seeWeeks();
        seeWhom();
        seeWages();
        seeIsFull();
        seeIsBadAheadOfFull();
        forgetting();
        forgettingNothing();
        kindsWhich();
        kindsAllAndNone();
        weightsWhich();
        weightsLeastAndMost();
        strengthsWhom();
        strengthsLeastAndMost();
        seenBehindTheLastWeek();
        seenFromNowOn();
        askWhom();
        askWhat();
        askBehindTheLastWeek();
        askTheOther();
        askFewerThanNow();
        askNone();
        driftWeeks();
        driftWhat();
        driftOfNoGoods();
        driftWrapsAround();
        driftByHand();
        Due.finish();
    }

    private static void luckOdds() {
        Due.sentence("luck: ill by v out of ten (0 to 10); BAD");
        HaulWages x = Due.bay(STEADY);
        Edge.bounds("luck(_, 0, 0)", v -> x.luck(v, 0, 0), 0, 1, 10, 0);
        Edge.bounds("luck(_, 0, 1)", v -> x.luck(v, 0, 1), 0, 1, 10, 1);
        Due.due("luck(1, 0, 0)", x.luck(1, 0, 0), 9);
        Due.due("luck(9, 0, 1)", x.luck(9, 0, 1), 10);
    }

    private static void luckWhich() {
        Due.sentence("luck: there is no such GOOD: BAD");
        HaulWages x = Due.bay("plain 1 5;plain 9 5;one 5;");
        Edge.bounds("luck(5, _, 1)", g -> x.luck(5, g, 1), 0, 2, 1, 1);
        HaulWages none = Due.bay("one 5;");
        Edge.bad("luck(5, _, 0) of none", g -> none.luck(5, g, 0), 0, -1);
    }

    private static void luckWhat() {
        Due.sentence("luck: 0, 1; BAD");
        HaulWages x = Due.bay(STEADY);
        Edge.bounds("luck(6, 0, _)", what -> x.luck(6, 0, what), 0, 2, 1, 5);
        Due.due("luck(11, 1, 2)", x.luck(11, 1, 2), BAD);
    }

    private static void luckOfNobody() {
        Due.sentence("luck: that a GOOD is taken: of nobody, of one that is TAKEN, in no round: 0 by 1");
        HaulWages[] rows = {Due.bay("plain 1 5;"), Due.bay("plain 1 5;one 5;"), Due.bay("plain 1 5;one 5;hooter 0;")};
        rows[1].hide(0);
        for (HaulWages x : rows) {
            Due.due("luck(0, 0, 0)", x.luck(0, 0, 0), 0);
            Due.due("luck(0, 0, 1)", x.luck(0, 0, 1), 1);
            Due.due("luck(5, 0, 0)", x.luck(5, 0, 0), 0);
            Due.due("luck(5, 0, 1)", x.luck(5, 0, 1), 1);
        }
    }

    private static void meanOdds() {
        Due.sentence("mean: each ONE is ill so (0 to 10); BAD");
        HaulWages x = Due.bay(STEADY);
        Edge.bounds("mean(_, 1, 0)", v -> x.mean(v, 1, 0), 0, 7, 10, 0);
        Edge.bounds("mean(_, 2, 0)", v -> x.mean(v, 2, 0), 0, 14, 10, 0);
        Edge.bounds("mean(_, 2, 1)", v -> x.mean(v, 2, 1), 0, 1, 10, 1);
        Due.due("mean(1, 2, 0)", x.mean(1, 2, 0), 63);
        Due.due("mean(1, 2, 1)", x.mean(1, 2, 1), 5);
        Due.due("mean(9, 2, 0)", x.mean(9, 2, 0), 7);
        Due.due("mean(9, 2, 1)", x.mean(9, 2, 1), 5);
    }

    private static void meanWeeks() {
        Due.sentence("mean: in each of n WEEKS (0 to 2); BAD");
        HaulWages x = Due.bay(STEADY);
        Edge.bounds("mean(5, _, 0)", n -> x.mean(5, n, 0), 0, 0, 2, 7);
        Edge.bounds("mean(5, _, 1)", n -> x.mean(5, n, 1), 0, 1, 2, 1);
        Due.due("mean(5, 1, 0)", x.mean(5, 1, 0), 7);
        Due.due("mean(5, 1, 1)", x.mean(5, 1, 1), 2);
    }

    private static void meanWhat() {
        Due.sentence("mean: 0, 1; BAD");
        HaulWages x = Due.bay(STEADY);
        Edge.bounds("mean(9, 1, _)", what -> x.mean(9, 1, what), 0, 7, 1, 10);
    }

    private static void meanOfNobody() {
        Due.sentence("mean: of nobody, of no GOODS, at 999: 0 by 1");
        HaulWages[] rows = {Due.bay("plain 1 5;"), Due.bay("one 5;"), Due.bay("plain 1 5;one 5;")};
        rows[2].train(0, 1, 999);
        for (HaulWages x : rows) {
            for (int n = 0; n <= 2; n++) {
                Due.due("mean(5, " + n + ", 0)", x.mean(5, n, 0), 0);
                Due.due("mean(5, " + n + ", 1)", x.mean(5, n, 1), 1);
            }
        }
        rows[2].train(0, 1, 998);
        Due.due("at 998: 1 more, if he is once not ill, 0", rows[2].mean(5, 2, 0), 3);
        Due.due("at 998: 1 more, if he is once not ill, 1", rows[2].mean(5, 2, 1), 4);
    }

    private static void seeWeeks() {
        Due.sentence("see: behind n WEEKS (0 to 20): how many are; BAD");
        HaulWages x = Due.bay(STEADY);
        Edge.bounds("see(_, 0, 5)", n -> x.see(n, 0, 5), 0, 1, 20, 2);
        Due.due("SEEN", x.count(0), 2);
    }

    private static void seeWhom() {
        Due.sentence("see: there is no such ONE: BAD");
        HaulWages x = Due.bay("one 1;one 2;one 3;one 4;");
        Edge.bounds("see(1, _, 5)", p -> x.see(1, p, 5), 0, 1, 3, 2);
        HaulWages nobody = Due.bay("plain 1 1;");
        Edge.bad("see(1, _, 5) of nobody", p -> nobody.see(1, p, 5), 0, -1);
        Due.due("SEEN of nobody", nobody.count(0), 0);
    }

    private static void seeWages() {
        Due.sentence("see: WAGES of a ONE are v (0 to 999); BAD");
        HaulWages x = Due.bay(STEADY);
        Edge.bounds("see(1, 0, _)", v -> x.see(1, 0, v), 0, 1, 999, 2);
        Due.due("SEEN", x.count(0), 2);
    }

    private static void seeIsFull() {
        Due.sentence("SEEN (6); see: FULL");
        HaulWages x = Due.bay(STEADY);
        for (int i = 1; i <= 6; i++) {
            Due.due("see() " + i, x.see(i, 0, 7 * i), i);
        }
        Due.due("see() 7", x.see(0, 0, 500), FULL);
        Due.due("SEEN", x.count(0), 6);
        Due.due("it does not count: strengths(0)", x.strengths(0), ALL_STRENGTHS - 2 - 4);
        x.forget(5);
        Due.due("the sixth once more", x.see(0, 0, 500), 6);
        Due.due("it counts: strengths(0)", x.strengths(0), 0);
        Due.due("FULL once more", x.see(0, 0, 0), FULL);
    }

    private static void seeIsBadAheadOfFull() {
        Due.sentence("see: BAD; FULL: the first that fits");
        HaulWages x = Due.bay(STEADY);
        for (int i = 0; i < 6; i++) {
            x.see(0, 0, 0);
        }
        Edge.bounds("see(_, 0, 0)", n -> x.see(n, 0, 0), 0, FULL, 20, FULL);
        Edge.bounds("see(0, _, 0)", p -> x.see(0, p, 0), 0, FULL, 1, FULL);
        Edge.bounds("see(0, 0, _)", v -> x.see(0, 0, v), 0, FULL, 999, FULL);
    }

    private static void forgetting() {
        Due.sentence("forget: SEEN are the first n alone: how many there were; BAD (n above that, too)");
        HaulWages x = Due.bay(STEADY);
        x.see(1, 0, 7);
        x.see(1, 0, 0);
        x.see(0, 1, 1);
        Edge.bad("forget(_)", x::forget, 0, 3);
        Due.due("forget(3)", x.forget(3), 3);
        Due.due("SEEN", x.count(0), 3);
        Due.due("forget(1)", x.forget(1), 3);
        Due.due("the first alone: strengths(0)", x.strengths(0), ALL_STRENGTHS - 2);
        Edge.bad("forget(_)", x::forget, 0, 1);
        Due.due("forget(0)", x.forget(0), 1);
        Due.due("none: strengths(0)", x.strengths(0), ALL_STRENGTHS);
        for (int i = 0; i < 6; i++) {
            x.see(0, 0, 0);
        }
        Edge.bad("forget(_)", x::forget, 0, 6);
        Due.due("forget(6)", x.forget(6), 6);
        Due.due("forget(0) of six", x.forget(0), 6);
    }

    private static void forgettingNothing() {
        Due.sentence("forget: of nothing SEEN");
        HaulWages x = new HaulWages();
        Edge.bounds("forget(_)", x::forget, 0, 0, 0, 0);
    }

    private static void kindsWhich() {
        Due.sentence("kinds: there is no such GOOD: BAD");
        HaulWages x = Due.bay("plain 1 5;plain 1 4;one 9;");
        Edge.bounds("kinds(_)", x::kinds, 0, ALL_KINDS, 1, ALL_KINDS);
        HaulWages none = Due.bay("one 9;");
        Edge.bad("kinds(_) of none", none::kinds, 0, -1);
    }

    private static void kindsAllAndNone() {
        Due.sentence("kinds: KINDS of a GOOD (bits) by which all is as SEEN");
        HaulWages x = Due.bay("plain 1 5;one 9;");
        int[] seen = {5, 3, 10, 4, 0};
        int[] bits = {1 + 2, 4, 8, 0, 0};
        for (int i = 0; i < seen.length; i++) {
            x.see(1, 0, seen[i]);
            Due.due("kinds(0), " + seen[i] + " SEEN", x.kinds(0), bits[i]);
            x.forget(0);
        }
        Due.due("kinds(0), nothing SEEN", x.kinds(0), ALL_KINDS);
        x.hide(0);
        x.see(1, 0, 0);
        Due.due("kinds(0), TAKEN", x.kinds(0), ALL_KINDS);
        Due.due("KIND stays", x.good(0, 0), 0);
    }

    private static void weightsWhich() {
        Due.sentence("weights: there is no such GOOD: BAD");
        HaulWages x = Due.bay("plain 1 5;plain 1 4;one 9;");
        Edge.bounds("weights(_)", x::weights, 0, ALL_WEIGHTS, 1, ALL_WEIGHTS);
        HaulWages none = Due.bay("one 9;");
        Edge.bad("weights(_) of none", none::weights, 0, -1);
    }

    private static void weightsLeastAndMost() {
        Due.sentence("weights: WEIGHTS of a GOOD (bits 1 to 9) by which all is as SEEN");
        HaulWages x = Due.bay("plain 5 5;one 1;");
        x.see(1, 0, 5);
        Due.due("1 alone", x.weights(0), 2);
        x.train(0, 0, 8);
        Due.due("all but 9", x.weights(0), ALL_WEIGHTS - 512);
        x.train(0, 0, 9);
        Due.due("all", x.weights(0), ALL_WEIGHTS);
        x.forget(0);
        x.see(1, 0, 0);
        Due.due("none", x.weights(0), 0);
        x.train(0, 0, 8);
        Due.due("9 alone", x.weights(0), 512);
        Due.due("WEIGHT stays", x.good(0, 1), 5);
    }

    private static void strengthsWhom() {
        Due.sentence("strengths: there is no such ONE: BAD");
        HaulWages x = Due.bay("one 1;one 2;one 3;one 4;");
        Edge.bounds("strengths(_)", x::strengths, 0, ALL_STRENGTHS, 3, ALL_STRENGTHS);
        HaulWages nobody = Due.bay("plain 1 1;");
        Edge.bad("strengths(_) of nobody", nobody::strengths, 0, -1);
    }

    private static void strengthsLeastAndMost() {
        Due.sentence("strengths: STRENGTHS of a ONE (bits 1 to 20) by which all is as SEEN");
        HaulWages x = Due.bay("plain 2 7;one 9;");
        x.see(1, 0, 0);
        Due.due("1 alone", x.strengths(0), 2);
        x.forget(0);
        x.see(1, 0, 7);
        Due.due("all but 1", x.strengths(0), ALL_STRENGTHS - 2);
        x.see(0, 0, 1);
        Due.due("none", x.strengths(0), 0);
        x = Due.bay("awkward 9 5;plain 2 1;one 9;brings 0;");
        x.see(1, 0, 6);
        Due.due("20 alone", x.strengths(0), 1 << 20);
        x.forget(0);
        x.see(1, 0, 5);
        Due.due("18 and 19", x.strengths(0), 3 << 18);
    }

    private static void seenBehindTheLastWeek() {
        Due.sentence("SEEN: behind n WEEKS (0 to 20)");
        HaulWages x = Due.bay(STEADY);
        x.see(20, 0, 140);
        Due.due("behind 20: 140", x.strengths(0), ALL_STRENGTHS - 2 - 4);
        x.forget(0);
        x.see(20, 0, 133);
        Due.due("behind 20: 133", x.strengths(0), 0);
        x.forget(0);
        x.see(20, 0, 7);
        Due.due("behind 20: 7, as by 2 he is BENT", x.strengths(0), 4);
        x.forget(0);
        x.see(0, 0, 0);
        Due.due("behind 0: 0", x.strengths(0), ALL_STRENGTHS);
        x.see(20, 0, 140);
        x.see(1, 0, 7);
        x.see(19, 0, 133);
        x.see(20, 1, 0);
        x.see(0, 1, 0);
        Due.due("six SEEN", x.strengths(0), ALL_STRENGTHS - 2 - 4);
        Due.due("six SEEN: kinds(0)", x.kinds(0), 1 + 2);
        Due.due("six SEEN: weights(0)", x.weights(0), ALL_WEIGHTS - 512);
    }

    private static void seenFromNowOn() {
        Due.sentence("SEEN: from how it stands when that is asked, not from see() on");
        HaulWages x = Due.bay(STEADY);
        x.see(1, 0, 7);
        Due.due("at once", x.strengths(0), ALL_STRENGTHS - 2);
        x.weeks(1);
        Due.due("a WEEK later", x.strengths(0), 2);
        x.train(0, 1, 0);
        Due.due("by WAGES 0 again", x.strengths(0), ALL_STRENGTHS - 2);
        x.set(0, 0);
        Due.due("in no round", x.strengths(0), 0);
    }

    private static void askWhom() {
        Due.sentence("ask: there is no such ONE: BAD");
        HaulWages x = Due.bay("plain 2 7;one 9;one 1;one 1;one 1;brings 8;");
        // By 1 he takes nothing; by 2 he is BENT; all else go alike. The others would bring none of them so far.
        Edge.bounds("ask(_, 1)", p -> x.ask(p, 1), 0, 18, 3, NONE);
        HaulWages nobody = Due.bay("plain 1 1;");
        Edge.bad("ask(_, 0) of nobody", p -> nobody.ask(p, 0), 0, -1);
    }

    private static void askWhat() {
        Due.sentence("ask: what 0, 1; BAD");
        HaulWages x = Due.bay("plain 2 7;one 9;brings 8;");
        Edge.bounds("ask(0, _)", what -> x.ask(0, what), 0, 20, 1, 18);
        HaulWages none = Due.bay("one 9;");
        Edge.bad("ask(0, _), NONE else", what -> none.ask(0, what), 0, 1);
    }

    private static void askBehindTheLastWeek() {
        Due.sentence("ask: behind how many WEEKS (0 to 20)");
        // Found by a search, and as the Model says: no WEEK ahead of the last one tells as much.
        HaulWages x = Due.bay("awkward 8 5;crate 6 4;plain 2 4;feather 2 5;plain 8 8;plain 4 5;plain 5 7;"
            + "one 13;one 10;one 15;one 2;hooter 3;brings 6;");
        int[] hidden = {0, 1, 3, 4, 6};
        for (int g : hidden) {
            x.hide(g);
        }
        Due.due("WEEK 20, whose", x.ask(3, 0), 203);
        Due.due("WEEK 20, how many", x.ask(3, 1), 3);
    }

    private static void askTheOther() {
        Due.sentence("ask: 10 times the WEEKS and who, of several the least");
        HaulWages x = Due.bay("plain 3 5;plain 2 4;one 4;one 20;one 20;one 20;hooter 1;brings 8;");
        // He has 999 whatever he takes: what he leaves is taken by the next.
        x.train(0, 1, 999);
        Due.due("ask the next", x.ask(0, 0), 21);
        Due.due("ask the next, how many", x.ask(0, 1), 17);
        x.train(0, 1, 0);
        Due.due("ask him", x.ask(0, 0), 20);
    }

    private static void askFewerThanNow() {
        Due.sentence("ask: fewest are left at the worst, fewer than now, of several the least");
        HaulWages x = Due.bay("plain 2 7;one 9;brings 8;");
        Due.due("of 20", x.ask(0, 0), 20);
        Due.due("of 20, 18 are left", x.ask(0, 1), 18);
        x.see(1, 0, 7);
        Due.due("of 19", x.ask(0, 0), 20);
        Due.due("of 19, 18 are left", x.ask(0, 1), 18);
        x.forget(0);
        x.see(2, 0, 14);
        Due.due("of 18, 18 would be left", x.ask(0, 0), NONE);
        x.forget(0);
        // 1 and 2 are left: any WEEK from the first on tells them apart.
        x.see(2, 0, 7);
        Due.due("2 alone", x.strengths(0), 4);
        Due.due("of 1, none is fewer", x.ask(0, 0), NONE);
        // He takes nothing in this WEEK, whatever his STRENGTH.
        HaulWages late = Due.bay("plain 2 7;one 9;brings 8;");
        late.hide(0);
        Due.due("a WEEK later", late.ask(0, 0), 30);
        HaulWages strong = Due.bay("awkward 9 5;plain 2 1;one 9;brings 0;");
        strong.see(1, 0, 6);
        Due.due("20 alone", strong.strengths(0), 1 << 20);
        Due.due("of 20 alone, none is fewer", strong.ask(0, 0), NONE);
    }

    private static void askNone() {
        Due.sentence("ask: NONE: none");
        Due.due("no GOODS", Due.bay("one 9;").ask(0, 0), NONE);
        HaulWages x = Due.bay("plain 2 7;one 9;hooter 0;");
        Due.due("no round", x.ask(0, 0), NONE);
        x.set(0, 1);
        x.see(0, 0, 1);
        Due.due("none is as SEEN", x.ask(0, 0), NONE);
        Due.due("none is as SEEN, how many", x.ask(0, 1), NONE);
        x.forget(0);
        x.train(0, 1, 999);
        Due.due("he has 999", x.ask(0, 0), NONE);
    }

    private static void driftWeeks() {
        Due.sentence("drift: n WEEKS (1 to 60); BAD");
        // A feather is light whatever it weighs: 1 is got in each WEEK that has a round; by seed 0 the first has none.
        HaulWages x = Due.bay("feather 1 3;one 20;brings 8;");
        int rounds = 0;
        int seed = 0;
        for (int w = 0; w < 60; w++) {
            seed = seed * 1103515245 + 12345;
            rounds += (seed >>> 16 & 32767) % 7 == 0 ? 0 : 1;
        }
        Edge.bounds("drift(0, _, 0)", n -> x.drift(0, n, 0), 1, 0, 60, rounds);
        Edge.bounds("drift(0, _, 1)", n -> x.drift(0, n, 1), 1, 0, 60, 0);
        Due.due("drift(0, 0, 0)", x.drift(0, 0, 0), BAD);
    }

    private static void driftWhat() {
        Due.sentence("drift: what 0, 1; BAD");
        // By seed 3 are got 17747 (HOOTER 2, it weighs 8): he takes it, and is BENT.
        HaulWages x = Due.bay("plain 1 9;one 8;");
        Edge.bounds("drift(3, 1, _)", what -> x.drift(3, 1, what), 0, gotIs(3, 17747, 9), 1, 1);
    }

    private static int gotIs(int seed, int got, int answer) {
        Due.due("got by seed " + seed, (seed * 1103515245 + 12345) >>> 16 & 32767, got);
        return answer;
    }

    private static void driftOfNoGoods() {
        Due.sentence("drift: BAD; STATE: there are no GOODS");
        HaulWages x = Due.bay("one 5;");
        Edge.bounds("drift(7, _, 0) of no GOODS", n -> x.drift(7, n, 0), 1, STATE, 60, STATE);
        Edge.bounds("drift(7, 1, _) of no GOODS", what -> x.drift(7, 1, what), 0, STATE, 1, STATE);
        Due.due("of nobody", Due.bay("plain 1 1;").drift(7, 60, 0), 0);
        Due.due("of nobody, BENT", Due.bay("plain 1 1;").drift(7, 60, 1), 0);
        x.stock(0, 1, 1);
        Edge.hideAll(x);
        Due.due("all GOODS are TAKEN", x.drift(7, 1, 1), 0);
    }

    private static void driftWrapsAround() {
        Due.sentence("drift: the seed becomes seed times 1103515245 and 12345 (a wrap-around); bits 16 to 30 are got");
        HaulWages x = Due.bay("plain 3 5;crate 2 2;awkward 1 3;feather 9 9;plain 4 4;one 9;one 6;one 4;brings 3;");
        int[] seeds = {0, 1, -1, 12345, -98765, 1 << 30, Integer.MAX_VALUE, Integer.MIN_VALUE};
        for (int seed : seeds) {
            for (int what = 0; what < 2; what++) {
                // Bit 31 of a seed never comes down to those that are got.
                Due.due("drift(" + seed + ", 60, " + what + ")", x.drift(seed, 60, what),
                    x.drift(seed ^ Integer.MIN_VALUE, 60, what));
            }
        }
    }

    private static void driftByHand() {
        Due.sentence("drift: HOOTER is got modulo 7; WEIGHT of GOOD got by 8 modulo GOODS becomes 1 more than got by 64 modulo 9");
        String[] goods = {"plain 3 5;", "plain 3 5;crate 2 2;awkward 1 3;feather 9 9;plain 4 4;",
            "crate 3 5;crate 2 2;awkward 1 3;feather 9 9;plain 4 4;plain 4 3;feather 2 8;plain 1 1;"};
        int[] seeds = {0, 5, -1, 777777777, Integer.MIN_VALUE, Integer.MAX_VALUE};
        for (String some : goods) {
            for (int seed : seeds) {
                HaulWages x = Due.bay(some + "one 19;one 6;one 4;brings 3;");
                x.train(0, 1, 30);
                int more = x.drift(seed, 60, 0);
                int bent = x.drift(seed, 60, 1);
                Due.due("WEEK stays", x.rule(2), 0);
                weeksBySeed(x, seed, more, bent);
            }
        }
    }

    /** The same WEEKS by the calls that change all these. */
    private static void weeksBySeed(HaulWages x, int first, int more, int bent) {
        long seed = first;
        int gained = 0;
        int times = 0;
        for (int w = 0; w < 60; w++) {
            seed = seed * 1103515245L + 12345L & 0xffffffffL;
            int got = (int) (seed / 65536 % 32768);
            x.set(0, got % 7);
            x.alter(got / 8 % x.rule(0), 1, 1 + got / 64 % 9);
            times += x.runs(1, 2);
            gained += x.weeks(1);
        }
        Due.due("drift(" + first + ", 60, 0)", more, gained);
        Due.due("drift(" + first + ", 60, 1)", bent, times);
    }
}
