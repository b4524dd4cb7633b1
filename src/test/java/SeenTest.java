/** Promises 29 to 34: what it was, told from WAGES. */
public final class SeenTest {
    private static final int BAD = HaulWages.BAD, FULL = HaulWages.FULL, NONE = HaulWages.NONE;
    private static final int ALL = (1 << 21) - 2;
    // Behind 1, 2, 3 WEEKS: STRENGTH 1: 0 0 0. 2: 4 4 4 (BENT). 3: 5 9 9 (BENT twice). 4 on: 5 10 15.
    private static final String ONE = "plain 3 5;plain 2 4;one 4;hooter 1;brings 8;";

    public static void main(String[] args) {
        seeing();
        forgetting();
        whichStrengths();
        strengthsOfEach();
        whichKindsAndWeights();
        weightsOfEach();
        fromHowItStands();
        whenToAskWhom();
        askOfTheSecond();
        askOfFew();
        Due.finish();
    }

    private static void seeing() {
        HaulWages x = Due.bay(ONE);
        int[][] bad = {{-1, 0, 0}, {21, 0, 0}, {0, -1, 0}, {0, 1, 0}, {0, 0, -1}, {0, 0, 1000}};
        for (int[] b : bad) {
            Due.due("see, BAD", x.see(b[0], b[1], b[2]), BAD);
        }
        for (int i = 1; i <= 6; i++) {
            Due.due("see " + i, x.see(20, 0, i % 2 * 999), i);
        }
        Due.due("see 7", x.see(0, 0, 0), FULL);
        for (int[] b : bad) {
            Due.due("see, BAD ahead of FULL", x.see(b[0], b[1], b[2]), BAD);
        }
        Due.due("count(0)", x.count(0), 6);
    }

    private static void forgetting() {
        HaulWages x = Due.bay(ONE);
        Due.due("forget(0) of none", x.forget(0), 0);
        Due.due("forget(1) of none", x.forget(1), BAD);
        x.see(1, 0, 5);
        x.see(2, 0, 9);
        x.see(0, 0, 7);
        Due.due("nothing is so", x.strengths(0), 0);
        Due.due("forget(-1)", x.forget(-1), BAD);
        Due.due("forget(4)", x.forget(4), BAD);
        Due.due("forget(3)", x.forget(3), 3);
        Due.due("forget(2)", x.forget(2), 3);
        Due.due("the first two are SEEN", x.strengths(0), 1 << 3);
        Due.due("forget(0)", x.forget(0), 2);
        Due.due("nothing is SEEN", x.strengths(0), ALL);
    }

    private static void whichStrengths() {
        HaulWages x = Due.bay(ONE);
        Due.due("strengths(0)", x.strengths(0), ALL);
        x.see(1, 0, 5);
        Due.due("strengths(0), 5 behind 1", x.strengths(0), ALL - 2 - 4);
        x.see(2, 0, 10);
        Due.due("strengths(0), 10 behind 2", x.strengths(0), ALL - 2 - 4 - 8);
        x.forget(0);
        x.see(20, 0, 100);
        Due.due("strengths(0), 100 behind 20", x.strengths(0), ALL - 2 - 4 - 8);
        x.forget(0);
        x.see(20, 0, 4);
        Due.due("strengths(0), 4 behind 20", x.strengths(0), 4);
        x.see(0, 0, 0);
        Due.due("strengths(0), 0 behind 0", x.strengths(0), 4);
        x.see(0, 0, 1);
        Due.due("strengths(0), 1 behind 0", x.strengths(0), 0);
        Due.due("strengths(1)", x.strengths(1), BAD);
        Due.due("strengths(-1)", x.strengths(-1), BAD);
        Due.due("STRENGTH stays", x.one(0, 0), 4);
    }

    /** By one and the same WAGES that are SEEN, each ONE has STRENGTHS of his own. */
    private static void strengthsOfEach() {
        HaulWages x = Due.bay("plain 3 5;plain 2 4;one 4;one 4;hooter 1;brings 8;");
        x.see(1, 1, 4);
        Due.due("the first has to take the 5", x.strengths(0), ALL - 2 - 4);
        Due.due("the second has to take the 4", x.strengths(1), ALL - 2);
        x.forget(0);
        x.see(1, 0, 5);
        Due.due("the first takes 5", x.strengths(0), ALL - 2 - 4);
        Due.due("the second comes behind him", x.strengths(1), ALL);
        x.see(1, 1, 0);
        Due.due("the 4 is left by none of the first's", x.strengths(0), 0);
        Due.due("the 4 is too heavy for the second", x.strengths(1), 2);
    }

    private static void whichKindsAndWeights() {
        HaulWages x = Due.bay(ONE);
        Due.due("kinds(0) of nothing SEEN", x.kinds(0), 15);
        Due.due("weights(0) of nothing SEEN", x.weights(0), 1022);
        x.see(1, 0, 5);
        Due.due("kinds(0), 5", x.kinds(0), 1);
        Due.due("weights(0), 5", x.weights(0), 2 + 4 + 8 + 16);
        Due.due("kinds(1), 5", x.kinds(1), 1 + 2 + 4);
        x.forget(0);
        x.see(1, 0, 4);
        Due.due("kinds(0), 4", x.kinds(0), 2 + 4 + 8);
        Due.due("weights(0), 4", x.weights(0), 32 + 64 + 128 + 256 + 512);
        Due.due("weights(1), 4", x.weights(1), 0);
        Due.due("kinds(2)", x.kinds(2), BAD);
        Due.due("kinds(-1)", x.kinds(-1), BAD);
        Due.due("weights(2)", x.weights(2), BAD);
        Due.due("weights(-1)", x.weights(-1), BAD);
        Due.due("KIND stays", x.good(0, 0), 0);
        Due.due("WEIGHT stays", x.good(0, 1), 3);
    }

    /** It is that GOOD which is heavier or lighter, by its own KIND and WORTH, and no other. */
    private static void weightsOfEach() {
        HaulWages x = Due.bay(ONE);
        x.see(1, 0, 5);
        Due.due("weights(1): he takes the 5, however light the 4 is", x.weights(1), 1022);
        x = Due.bay("crate 2 3;plain 3 5;one 7;hooter 1;brings 8;");
        x.see(1, 0, 6);
        Due.due("weights(0) of a crate: 1 to 4", x.weights(0), 2 + 4 + 8 + 16);
        Due.due("weights(1) beside a crate", x.weights(1), 1022);
        x.forget(0);
        x.see(1, 0, 5);
        Due.due("weights(0) of a crate: 5 to 9", x.weights(0), 32 + 64 + 128 + 256 + 512);
        Due.due("weights(1): none, he takes the crate", x.weights(1), 0);
    }

    private static void fromHowItStands() {
        HaulWages x = Due.bay(ONE);
        x.see(1, 0, 5);
        x.keep(0);
        x.weeks(1);
        Due.due("asked a WEEK later", x.strengths(0), 2);
        Due.due("kinds(0) a WEEK later", x.kinds(0), 0);
        x.back(0);
        Due.due("SEEN stays by back()", x.strengths(0), ALL - 2 - 4);
    }

    private static void hideAll(HaulWages x, int bits) {
        for (int g = 0; g < 8; g++) {
            if ((bits >> g & 1) == 1) {
                x.hide(g);
            }
        }
    }

    private static void whenToAskWhom() {
        HaulWages x = Due.bay(ONE);
        Due.due("ask(0, 0)", x.ask(0, 0), 20);
        Due.due("ask(0, 1)", x.ask(0, 1), 17);
        x.see(1, 0, 5);
        Due.due("ask(0, 0), 5 SEEN", x.ask(0, 0), 20);
        Due.due("ask(0, 1), 5 SEEN", x.ask(0, 1), 17);
        x.see(2, 0, 10);
        Due.due("ask(0, 0): all alike", x.ask(0, 0), NONE);
        Due.due("ask(0, 1): all alike", x.ask(0, 1), NONE);
        x.see(2, 0, 9);
        Due.due("ask(0, 0): none is left", x.ask(0, 0), NONE);
        Due.due("ask(1, 0)", x.ask(1, 0), BAD);
        Due.due("ask(-1, 0)", x.ask(-1, 0), BAD);
        Due.due("ask(0, 2)", x.ask(0, 2), BAD);
        Due.due("ask(0, -1)", x.ask(0, -1), BAD);
        // He has 999 whatever he takes; only what he leaves to the other tells how strong he is.
        x = Due.bay("plain 3 5;plain 2 4;one 4;one 20;hooter 1;brings 8;");
        x.train(0, 1, 999);
        Due.due("ask(0, 0): ask the other", x.ask(0, 0), 21);
        Due.due("ask(0, 1): ask the other", x.ask(0, 1), 17);
        Due.due("WEEK", x.rule(2), 0);
        // Four ask by 10s, too: that of the first in WEEK 2 is no fifth in WEEK 1.
        x = Due.bay(ONE + "one 1;one 1;one 1;");
        Due.due("ask(0, 0) among four", x.ask(0, 0), 20);
        Due.due("ask(0, 1) among four", x.ask(0, 1), 17);
        Due.due("ask(3, 0) among four", x.ask(3, 0), 23);
        Due.due("ask(3, 1) among four", x.ask(3, 1), 18);
        // Found by a search, and as the Model says: not ahead of the last WEEK that may be asked.
        x = Due.bay("awkward 8 5;crate 6 4;plain 2 4;feather 2 5;plain 8 8;plain 4 5;plain 5 7;"
            + "one 13;one 10;one 15;one 2;hooter 3;brings 6;");
        hideAll(x, 91);
        Due.due("ask(3, 0): the last WEEK", x.ask(3, 0), 203);
        Due.due("ask(3, 1): the last WEEK", x.ask(3, 1), 3);
        // One alone is left: 20, the strongest.
        x = Due.bay("awkward 9 5;plain 2 1;one 9;hooter 2;brings 0;");
        x.see(1, 0, 6);
        Due.due("strengths(0): 20 alone", x.strengths(0), 1 << 20);
        Due.due("ask(0, 0): one alone is left", x.ask(0, 0), NONE);
        // 1 and 2 are left; the lighter one, which both take first, bends 1 alone, but he stays at 1.
        x = Due.bay("plain 1 1;plain 2 1;plain 3 9;one 1;hooter 1;brings 8;");
        x.see(1, 0, 1);
        Due.due("strengths(0): 1 and 2", x.strengths(0), 2 + 4);
        Due.due("ask(0, 0): 1 and 2 go alike", x.ask(0, 0), NONE);
    }

    private static void askOfTheSecond() {
        HaulWages x = Due.bay("plain 3 5;plain 2 4;one 4;one 4;hooter 1;brings 8;");
        x.see(1, 1, 4);
        // 2 to 20 are left of the second: by 2 he is BENT, and has 4 behind 2 WEEKS; by each other 8.
        Due.due("ask(1, 0)", x.ask(1, 0), 21);
        Due.due("ask(1, 1)", x.ask(1, 1), 18);
        // 3 to 20 are left of the first: by 3 he is BENT, and has 9 behind 2 WEEKS; by each other 10.
        Due.due("ask(0, 0)", x.ask(0, 0), 20);
        Due.due("ask(0, 1)", x.ask(0, 1), 17);
    }

    /** Those who are not as SEEN do not count, be it that they were asked about before or not. */
    private static void askOfFew() {
        HaulWages x = Due.bay("plain 3 5;plain 2 4;one 4;hooter 2;brings 8;");
        x.see(1, 0, 5);
        // By 3 he is BENT, and takes the 4 then; by 4 the 5 again.
        Due.due("3 and 4", x.strengths(0), 8 + 16);
        Due.due("ask(0, 0) of 3 and 4", x.ask(0, 0), 20);
        Due.due("ask(0, 1) of 3 and 4", x.ask(0, 1), 1);
        // The 4 is brought behind the first WEEK. 1 takes nothing, 2 takes it once, as he is BENT by it, 3 to 8 each time.
        for (int before = 0; before < 2; before++) {
            x = Due.bay("plain 2 4;plain 9 9;one 5;hooter 1;brings 1;");
            x.hide(0);
            if (before == 1) {
                // 9 to 20 take the 9, which never comes back, and go alike from then on.
                Due.due("ask(0, 0) of all", x.ask(0, 0), 10);
                Due.due("ask(0, 1) of all", x.ask(0, 1), 12);
            }
            x.see(1, 0, 0);
            Due.due("1 to 8", x.strengths(0), 510);
            Due.due("ask(0, 0) of 1 to 8", x.ask(0, 0), 30);
            Due.due("ask(0, 1) of 1 to 8", x.ask(0, 1), 6);
        }
    }
}
