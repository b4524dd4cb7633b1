/** Promises 15 to 19: a WEEK and its order, BY WEEKS. */
public final class WeeksTest {
    private static final int BAD = HaulWages.BAD, FULL = HaulWages.FULL, NONE = HaulWages.NONE;
    // Week by week: 5 and 4 (he is BENT, STRENGTH 4), then 5 in each; the second GOOD never comes back.
    private static final String ALONE = "plain 3 5;plain 2 4;one 5;hooter 2;brings 1;";

    public static void main(String[] args) {
        weeksThatPass();
        theOrderOfAWeek();
        bent();
        bounds();
        weeksThatWouldPass();
        peopleAhead();
        goodsThatGo();
        riches();
        Due.finish();
    }

    private static void weeksThatPass() {
        HaulWages x = Due.bay(ALONE);
        Due.due("weeks(0)", x.weeks(0), 0);
        Due.due("WEEK", x.rule(2), 0);
        Due.due("weeks(1)", x.weeks(1), 9);
        Due.due("STRENGTH", x.one(0, 0), 4);
        Due.due("in STORE", x.rule(5), 1);
        Due.due("WEEK", x.rule(2), 1);
        Due.due("weeks(2)", x.weeks(2), 10);
        Due.due("WAGES", x.one(0, 1), 19);
        Due.due("WEEK", x.rule(2), 3);
        x.train(0, 1, 992);
        Due.due("weeks(3) up to 999", x.weeks(3), 7);
        Due.due("WAGES", x.one(0, 1), 999);
        Due.due("weeks(-1)", x.weeks(-1), BAD);
        Due.due("weeks(31)", x.weeks(31), BAD);
    }

    private static void theOrderOfAWeek() {
        // Each takes one in each round: 9 8 | 7 6, not 9 8 7 for the first.
        HaulWages x = Due.bay("plain 1 6;plain 1 7;plain 1 8;plain 1 9;one 9;one 9;hooter 2;brings 3;");
        Due.due("the first takes", x.one(0, 2), 8 + 2);
        Due.due("the second takes", x.one(1, 2), 4 + 1);
        Due.due("weeks(1)", x.weeks(1), 30);
        Due.due("WAGES 0", x.one(0, 1), 16);
        Due.due("WAGES 1", x.one(1, 1), 14);
        Due.due("the first three are brought", x.rule(5), 7);
        // Of several that PAY as much, the first; one that PAYS nothing is taken, too.
        x = Due.bay("plain 2 0;plain 1 0;one 3;hooter 1;brings 0;");
        Due.due("the first of several", x.one(0, 2), 1);
        x.set(0, 2);
        Due.due("HEFT up to STRENGTH", x.one(0, 3), 3);
        Due.due("weeks(1)", x.weeks(1), 0);
        Due.due("nothing is brought", x.rule(5), 0);
        Due.due("BENT by what PAYS nothing", x.one(0, 0), 2);
        // What is heavier than what is left is passed over.
        x = Due.bay("plain 3 9;plain 3 8;plain 1 1;one 5;hooter 2;");
        Due.due("passed over", x.one(0, 2), 5);
    }

    private static void bent() {
        HaulWages x = Due.bay("plain 1 1;one 1;hooter 6;brings 8;");
        Due.due("runs(3, 2)", x.runs(3, 2), 3);
        x.weeks(3);
        Due.due("STRENGTH is 1 at least", x.one(0, 0), 1);
        x = Due.bay("plain 2 1;one 3;brings 8;");
        Due.due("less than STRENGTH", x.runs(5, 2), 0);
        x = Due.bay("one 3;brings 8;");
        Due.due("nothing in his ARMS", x.runs(5, 2), 0);
    }

    private static void bounds() {
        HaulWages x = Due.bay(ALONE);
        for (int i = 0; i < 33; i++) {
            x.weeks(30);
        }
        Due.due("WEEK", x.rule(2), 990);
        Due.due("weeks(10)", x.weeks(10), FULL);
        Due.due("weeks(31) is BAD first", x.weeks(31), BAD);
        Due.due("WEEK", x.rule(2), 990);
        Due.due("weeks(9)", x.weeks(9), 0);
        Due.due("WEEK", x.rule(2), 999);
        Due.due("weeks(1)", x.weeks(1), FULL);
        Due.due("weeks(0)", x.weeks(0), 0);
        x.train(0, 1, 0);
        Due.due("BY WEEKS it goes on", x.runs(2, 0), 10);
    }

    private static void weeksThatWouldPass() {
        HaulWages x = Due.bay(ALONE);
        int[] behind = {0, 1, 2, 60};
        int[][] want = {{0, 3, 0, 0, 0}, {9, 1, 1, 2, 9}, {14, 1, 1, 3, 14}, {304, 1, 1, 61, 304}};
        for (int i = 0; i < behind.length; i++) {
            for (int what = 0; what < 5; what++) {
                Due.due("runs(" + behind[i] + ", " + what + ")", x.runs(behind[i], what), want[i][what]);
            }
        }
        Due.due("WEEK", x.rule(2), 0);
        Due.due("WAGES", x.rule(6), 0);
        Due.due("in STORE", x.rule(5), 3);
        x.train(0, 1, 100);
        Due.due("runs(1, 0) from 100 on", x.runs(1, 0), 9);
        Due.due("runs(1, 4) from 100 on", x.runs(1, 4), 109);
        Due.due("runs(-1, 0)", x.runs(-1, 0), BAD);
        Due.due("runs(61, 0)", x.runs(61, 0), BAD);
        Due.due("runs(1, -1)", x.runs(1, -1), BAD);
        Due.due("runs(1, 5)", x.runs(1, 5), BAD);
        x = Due.bay("plain 1 9;plain 1 3;plain 1 7;one 9;one 9;one 9;hooter 1;");
        Due.due("the least WAGES", x.runs(1, 4), 3);
        Due.due("the least of nobody", Due.bay("plain 1 9;").runs(9, 4), 0);
    }

    private static void peopleAhead() {
        HaulWages x = Due.bay(ALONE + "one 2;");
        Due.due("ahead(0, 0, 0)", x.ahead(0, 0, 0), 0);
        Due.due("ahead(0, 0, 1)", x.ahead(0, 0, 1), 5);
        // Now the second takes the second GOOD in round 1 (BENT) and no more.
        Due.due("ahead(0, 1, 0)", x.ahead(0, 1, 0), 5);
        Due.due("ahead(1, 1, 0)", x.ahead(1, 1, 0), 4);
        Due.due("ahead(1, 1, 1)", x.ahead(1, 1, 1), 1);
        Due.due("ahead(0, 60, 0)", x.ahead(0, 60, 0), 300);
        Due.due("ahead(1, 60, 0)", x.ahead(1, 60, 0), 4);
        Due.due("it is asked alone", x.one(1, 0), 2);
        Due.due("ahead(2, 1, 0)", x.ahead(2, 1, 0), BAD);
        Due.due("ahead(-1, 1, 0)", x.ahead(-1, 1, 0), BAD);
        Due.due("ahead(0, -1, 0)", x.ahead(0, -1, 0), BAD);
        Due.due("ahead(0, 61, 0)", x.ahead(0, 61, 0), BAD);
        Due.due("ahead(0, 1, 2)", x.ahead(0, 1, 2), BAD);
        Due.due("ahead(0, 1, -1)", x.ahead(0, 1, -1), BAD);
    }

    private static void goodsThatGo() {
        HaulWages x = Due.bay(ALONE);
        Due.due("gone(0)", x.gone(0), 0);
        Due.due("gone(1)", x.gone(1), 0);
        Due.due("gone(2)", x.gone(2), BAD);
        Due.due("gone(-1)", x.gone(-1), BAD);
        x.hide(0);
        Due.due("gone(0), brought in this WEEK", x.gone(0), 1);
        Due.due("gone(1)", x.gone(1), 0);
        x.fill();
        x.hide(1);
        Due.due("gone(1), never brought", x.gone(1), NONE);
        Due.due("gone(0)", x.gone(0), 0);
        Due.due("in STORE", x.rule(5), 1);
        x.train(0, 0, 1);
        Due.due("gone(0), too heavy", x.gone(0), NONE);
        // Found by a search, and as the Model says: hardly any GOOD is taken first so late.
        x = Due.bay("plain 3 1;awkward 6 3;crate 9 3;feather 4 1;crate 4 1;crate 1 9;crate 1 5;crate 1 7;"
            + "one 15;one 20;one 3;one 3;hooter 3;brings 3;");
        for (int g = 0; g < 8; g++) {
            if (g != 1) {
                x.hide(g);
            }
        }
        Due.due("gone(7), late", x.gone(7), 51);
    }

    private static void riches() {
        HaulWages x = Due.bay(ALONE);
        int[][] want = {{0, 0}, {1, 1}, {9, 1}, {10, 2}, {14, 2}, {15, 3}, {304, 60}, {305, NONE}, {999, NONE}};
        for (int[] w : want) {
            Due.due("rich(0, " + w[0] + ")", x.rich(0, w[0]), w[1]);
        }
        Due.due("rich(0, -1)", x.rich(0, -1), BAD);
        Due.due("rich(0, 1000)", x.rich(0, 1000), BAD);
        Due.due("rich(1, 5)", x.rich(1, 5), BAD);
        Due.due("rich(-1, 5)", x.rich(-1, 5), BAD);
        x.train(0, 1, 999);
        Due.due("rich(0, 999), now", x.rich(0, 999), 0);
    }
}
