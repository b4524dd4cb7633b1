/** The bounds that the document's Terms name for GOODS, PEOPLE and A WEEK: each sentence has a test of its own. */
public final class BoundsOfTermsTest {
    private static final int BAD = HaulWages.BAD, FULL = HaulWages.FULL;
    private static final String[] KINDS = {"plain", "awkward", "feather", "crate"};

    public static void main(String[] args) {
        numbersFromZero();
        goodsAreEight();
        kinds();
        weights();
        worths();
        inStoreAtFirst();
        peopleAreFour();
        strengths();
        wages();
        hooters();
        brings();
        weekIsZeroAtFirst();
        heft();
        pays();
        roundsOfTheHooter();
        heftNoMoreThanStrength();
        armsAreEmptyAhead();
        ofSeveralTheFirst();
        nothingIfThereIsNone();
        wagesAreNeverAbove999();
        bentIfAsMuch();
        strengthNeverBelowOne();
        bringsTheFirst();
        bringsAllIfFewer();
        byWeeksBeyondTheLastWeek();
        fractions();
        Due.finish();
    }

    private static void numbersFromZero() {
        Due.sentence("What is numbered has its numbers from 0 on, as it comes");
        HaulWages x = Due.bay("plain 3 1;plain 5 2;one 7;one 8;");
        Due.due("good(0, 1)", x.good(0, 1), 3);
        Due.due("good(1, 1)", x.good(1, 1), 5);
        Due.due("good(2, 1)", x.good(2, 1), BAD);
        Due.due("one(0, 0)", x.one(0, 0), 7);
        Due.due("one(1, 0)", x.one(1, 0), 8);
        Due.due("one(2, 0)", x.one(2, 0), BAD);
        x.stock(0, 6, 3);
        Due.due("good(2, 1), one more", x.good(2, 1), 6);
    }

    private static void goodsAreEight() {
        Due.sentence("GOODS (8 at most)");
        Edge.taken("plain 1 1;".repeat(8), 8);
        Edge.refused("plain 1 1;".repeat(9), 80, 5);
        HaulWages x = Due.bay("plain 1 1;".repeat(7));
        Due.due("the eighth by stock()", x.stock(0, 1, 1), 8);
        Due.due("the ninth by stock()", x.stock(0, 1, 1), FULL);
        x = Due.bay("plain 1 1;".repeat(7));
        x.sheet(0, 0, 6);
        Edge.layRow(x, 0, 0, 1, 1, 0, 1, 1);
        Due.due("the eighth and the ninth by read()", x.read(0, 0, 0, 2), -21);
        Due.due("the eighth by read()", x.read(0, 0, 0, 1), 1);
        Due.due("the ninth by read()", x.read(0, 0, 0, 1), -20);
        Due.due("GOODS", x.rule(0), 8);
    }

    private static void kinds() {
        Due.sentence("KIND (0 plain, 1 awkward, 2 feather, 3 crate)");
        for (int k = 0; k < 4; k++) {
            HaulWages x = Due.bay(KINDS[k] + " 1 1;");
            Due.due("KIND of " + KINDS[k], x.good(0, 0), k);
            Due.due("stock of KIND " + k, x.stock(k, 1, 1), 2);
            Due.due("its KIND", x.good(1, 0), k);
        }
        HaulWages x = new HaulWages();
        Edge.bad("stock(_, 1, 1)", v -> x.stock(v, 1, 1), 0, 3);
    }

    private static void weights() {
        Due.sentence("WEIGHT (1 to 9)");
        for (String kind : KINDS) {
            int at = kind.length() + 1;
            Edge.refused(kind + " 0 1;", at, 3);
            Edge.refused(kind + " 00 1;", at, 3);
            Edge.taken(kind + " 1 1;", 1);
            Edge.taken(kind + " 9 1;", 1);
            Edge.taken(kind + " 09 1;", 1);
            Edge.refused(kind + " 10 1;", at, 3);
            Edge.refused(kind + " 99 1;", at, 3);
        }
        HaulWages x = new HaulWages();
        Edge.bounds("stock(0, _, 1)", v -> x.stock(0, v, 1), 1, 1, 9, 2);
    }

    private static void worths() {
        Due.sentence("WORTH (0 to 9)");
        for (String kind : KINDS) {
            int at = kind.length() + 3;
            Edge.taken(kind + " 1 0;", 1);
            Edge.taken(kind + " 1 00;", 1);
            Edge.taken(kind + " 1 9;", 1);
            Edge.taken(kind + " 1 09;", 1);
            Edge.refused(kind + " 1 10;", at, 3);
            Edge.refused(kind + " 1 99;", at, 3);
        }
        HaulWages x = new HaulWages();
        Edge.bounds("stock(0, 1, _)", v -> x.stock(0, 1, v), 0, 1, 9, 2);
    }

    private static void inStoreAtFirst() {
        Due.sentence("GOODS in STORE (at first)");
        HaulWages x = Due.bay("plain 1 1;");
        Due.due("by text(): TAKEN", x.good(0, 3), 0);
        x.stock(0, 1, 1);
        Due.due("by stock(): TAKEN", x.good(1, 3), 0);
        x.sheet(0, 2, 3);
        Edge.layRow(x, 0, 0, 1, 1);
        x.read(0, 2, 0, 1);
        Due.due("by read(): TAKEN", x.good(2, 3), 0);
        Edge.hideAll(x);
        Due.tell(x, "plain 1 1;");
        Due.due("by text(), where one was TAKEN", x.good(0, 3), 0);
        x.stock(0, 1, 1);
        Due.due("by stock(), where one was TAKEN", x.good(1, 3), 0);
        x.read(0, 2, 0, 1);
        Due.due("by read(), where one was TAKEN", x.good(2, 3), 0);
    }

    private static void peopleAreFour() {
        Due.sentence("PEOPLE (4 at most)");
        Edge.taken("one 1;".repeat(4), 4);
        Edge.refused("one 1;".repeat(5), 24, 5);
        HaulWages x = Due.bay("one 1;one 2;one 3;one 4;");
        Due.due("PEOPLE", x.rule(1), 4);
        Due.due("the fourth", x.one(3, 0), 4);
        Due.due("the fifth", x.one(4, 0), BAD);
    }

    private static void strengths() {
        Due.sentence("STRENGTH (1 to 20)");
        Edge.refused("one 0;", 4, 3);
        Edge.refused("one 00;", 4, 3);
        Edge.taken("one 1;", 1);
        Edge.taken("one 01;", 1);
        Edge.taken("one 20;", 1);
        Edge.refused("one 21;", 4, 3);
        Edge.refused("one 99;", 4, 3);
    }

    private static void wages() {
        Due.sentence("WAGES (0 to 999; 0 at first)");
        HaulWages x = Due.bay("one 5;one 6;");
        Due.due("at first", x.one(0, 1), 0);
        Due.due("at first, the second", x.one(1, 1), 0);
        Edge.bounds("train(0, 1, _)", v -> x.train(0, 1, v), 0, 0, 999, 0);
        Due.tell(x, "one 5;one 6;");
        Due.due("at first, where there were some", x.one(0, 1), 0);
    }

    private static void hooters() {
        Due.sentence("HOOTER (0 to 6 rounds; 2 at first)");
        Due.due("a new object", new HaulWages().rule(3), 2);
        Due.due("no line tells it", Due.bay("one 1;").rule(3), 2);
        Due.due("0", Due.bay("hooter 0;").rule(3), 0);
        Due.due("6", Due.bay("hooter 6;").rule(3), 6);
        Edge.refused("hooter 7;", 7, 3);
        Edge.refused("hooter 99;", 7, 3);
    }

    private static void brings() {
        Due.sentence("BRINGS (0 to 8; 2 at first)");
        Due.due("a new object", new HaulWages().rule(4), 2);
        Due.due("no line tells it", Due.bay("one 1;").rule(4), 2);
        Due.due("0", Due.bay("brings 0;").rule(4), 0);
        Due.due("8", Due.bay("brings 8;").rule(4), 8);
        Edge.refused("brings 9;", 7, 3);
        Edge.refused("brings 99;", 7, 3);
    }

    private static void weekIsZeroAtFirst() {
        Due.sentence("WEEK (0 at first)");
        HaulWages x = new HaulWages();
        Due.due("a new object", x.rule(2), 0);
        x.weeks(3);
        Due.tell(x, "one 1;");
        Due.due("a text more", x.rule(2), 0);
    }

    private static void heft() {
        Due.sentence("HEFT by KIND: as much; twice; half (up); 1 less than an awkward one");
        int[][] heft = {{1, 2, 3, 4, 5, 6, 7, 8, 9}, {2, 4, 6, 8, 10, 12, 14, 16, 18}, {1, 1, 2, 2, 3, 3, 4, 4, 5},
            {1, 3, 5, 7, 9, 11, 13, 15, 17}};
        HaulWages x = Due.bay("plain 1 1;");
        for (int k = 0; k < 4; k++) {
            x.alter(0, 0, k);
            for (int w = 1; w <= 9; w++) {
                x.alter(0, 1, w);
                Due.due("HEFT of KIND " + k + ", WEIGHT " + w, x.good(0, 4), heft[k][w - 1]);
            }
        }
    }

    private static void pays() {
        Due.sentence("PAYS by KIND: as much; as a plain one; 2 less (0 at least); twice");
        int[][] pays = {{0, 1, 2, 3, 4, 5, 6, 7, 8, 9}, {0, 1, 2, 3, 4, 5, 6, 7, 8, 9}, {0, 0, 0, 1, 2, 3, 4, 5, 6, 7},
            {0, 2, 4, 6, 8, 10, 12, 14, 16, 18}};
        HaulWages x = Due.bay("plain 1 1;");
        for (int k = 0; k < 4; k++) {
            x.alter(0, 0, k);
            for (int v = 0; v <= 9; v++) {
                x.alter(0, 2, v);
                Due.due("PAYS of KIND " + k + ", WORTH " + v, x.good(0, 5), pays[k][v]);
            }
        }
        // The least that a feather PAYS is what he gets, too.
        Due.due("feather of WORTH 0: WAGES", Due.bay("feather 1 0;one 5;").weeks(1), 0);
        Due.due("feather of WORTH 1: WAGES", Due.bay("feather 1 1;one 5;").weeks(1), 0);
    }

    private static void roundsOfTheHooter() {
        Due.sentence("As many rounds as the HOOTER goes");
        HaulWages x = Due.bay("plain 1 1;".repeat(8) + "one 20;one 20;");
        int[] first = {0, 1, 1 + 4, 1 + 4 + 16, 1 + 4 + 16 + 64, 1 + 4 + 16 + 64, 1 + 4 + 16 + 64};
        for (int h = 0; h <= 6; h++) {
            x.set(0, h);
            Due.due("HOOTER " + h + ": the first takes", x.one(0, 2), first[h]);
            Due.due("HOOTER " + h + ": the second takes", x.one(1, 2), 2 * first[h]);
        }
        HaulWages alone = Due.bay("plain 1 1;".repeat(8) + "one 20;");
        for (int h = 0; h <= 6; h++) {
            alone.set(0, h);
            Due.due("HOOTER " + h + ": one alone takes", alone.one(0, 2), (1 << h) - 1);
        }
    }

    private static void heftNoMoreThanStrength() {
        Due.sentence("HEFT, with all that is in his ARMS, is no more than his STRENGTH");
        HaulWages x = Due.bay("plain 4 9;plain 3 1;one 3;hooter 2;");
        int[] takes = {0, 0, 2, 1, 1, 1, 3, 3};
        for (int s = 1; s <= 8; s++) {
            x.train(0, 0, s);
            Due.due("STRENGTH " + s, x.one(0, 2), takes[s - 1]);
        }
    }

    private static void armsAreEmptyAhead() {
        Due.sentence("his ARMS (empty ahead of the WEEK)");
        HaulWages x = Due.bay("plain 5 1;one 6;brings 8;");
        for (int w = 0; w < 3; w++) {
            Due.due("WEEK " + w + ": takes", x.one(0, 2), 1);
            Due.due("WEEK " + w + ": HEFT", x.one(0, 3), 5);
            Due.due("WEEK " + w + ": WAGES more", x.weeks(1), 1);
        }
    }

    private static void ofSeveralTheFirst() {
        Due.sentence("that GOOD which PAYS most, of several the first");
        HaulWages x = Due.bay("plain 1 4;crate 1 2;feather 1 6;plain 1 5;one 9;hooter 1;");
        Due.due("the most", x.one(0, 2), 8);
        x.hide(3);
        Due.due("of three", x.one(0, 2), 1);
        x.hide(0);
        Due.due("of two", x.one(0, 2), 2);
        x.hide(1);
        Due.due("the last", x.one(0, 2), 4);
    }

    private static void nothingIfThereIsNone() {
        Due.sentence("nothing, if there is none");
        HaulWages x = Due.bay("plain 5 9;one 5;one 5;brings 0;");
        Due.due("the other has it", x.one(1, 2), 0);
        Due.due("the other has it: HEFT", x.one(1, 3), 0);
        x.hide(0);
        Due.due("it is TAKEN", x.one(0, 2), 0);
        Due.due("weeks(1)", x.weeks(1), 0);
        x.fill();
        x.train(0, 0, 4);
        Due.due("too heavy", x.one(0, 2), 0);
        Due.due("too heavy for the first alone", x.one(1, 2), 1);
        x.train(1, 0, 4);
        Due.due("too heavy for both", x.weeks(1), 0);
        Due.due("nobody is BENT", x.one(0, 0), 4);
    }

    private static void wagesAreNeverAbove999() {
        Due.sentence("WAGES are more by what all in his ARMS PAYS (999 at most)");
        int[][] rows = {{989, 999, 10}, {990, 999, 9}, {988, 998, 10}, {998, 999, 1}, {999, 999, 0}, {0, 10, 10}};
        for (int[] row : rows) {
            HaulWages x = Due.bay("crate 1 5;one 9;one 9;brings 8;");
            x.train(0, 1, row[0]);
            Due.due("from " + row[0] + " on: ahead(0, 1, 0)", x.ahead(0, 1, 0), row[1]);
            Due.due("from " + row[0] + " on: runs(1, 0)", x.runs(1, 0), row[2]);
            Due.due("from " + row[0] + " on: weeks(1)", x.weeks(1), row[2]);
            Due.due("from " + row[0] + " on: WAGES", x.one(0, 1), row[1]);
            Due.due("from " + row[0] + " on: the other", x.one(1, 1), 0);
        }
    }

    private static void bentIfAsMuch() {
        Due.sentence("he is BENT, if HEFT of it all is as much as his STRENGTH: STRENGTH is 1 less");
        int[][] rows = {{4, 4, 0}, {5, 4, 1}, {6, 6, 0}, {20, 20, 0}};
        for (int[] row : rows) {
            HaulWages x = Due.bay("plain 2 1;plain 3 1;one 9;");
            x.train(0, 0, row[0]);
            // By 4 he takes the first alone; by 5 both.
            Due.due("STRENGTH " + row[0] + ": times BENT", x.runs(1, 2), row[2]);
            x.weeks(1);
            Due.due("STRENGTH " + row[0] + " becomes", x.one(0, 0), row[1]);
        }
        HaulWages x = Due.bay("plain 9 1;awkward 5 1;plain 1 1;one 20;hooter 3;");
        x.weeks(1);
        Due.due("STRENGTH 20 becomes", x.one(0, 0), 19);
    }

    private static void strengthNeverBelowOne() {
        Due.sentence("STRENGTH is 1 less (1 at least)");
        HaulWages x = Due.bay("plain 1 1;plain 2 9;one 2;hooter 1;brings 8;");
        Due.due("weeks(1)", x.weeks(1), 9);
        Due.due("from 2 on", x.one(0, 0), 1);
        Due.due("weeks(1)", x.weeks(1), 1);
        Due.due("from 1 on", x.one(0, 0), 1);
        Due.due("BENT by 1, too", x.runs(60, 2), 60);
        Due.due("ahead(0, 60, 1)", x.ahead(0, 60, 1), 1);
        Due.due("weeks(30)", x.weeks(30), 30);
        Due.due("from 1 on, behind 30", x.one(0, 0), 1);
    }

    private static void bringsTheFirst() {
        Due.sentence("the first GOODS, by order, that are TAKEN, as many as one BRINGS");
        for (int b = 0; b <= 8; b++) {
            HaulWages x = Due.bay("plain 9 1;".repeat(8) + "one 1;");
            x.set(1, b);
            Edge.hideAll(x);
            Due.due("BRINGS " + b + ": runs(1, 1)", x.runs(1, 1), (1 << b) - 1);
            Due.due("BRINGS " + b + ": runs(2, 1)", x.runs(2, 1), (1 << Math.min(8, 2 * b)) - 1);
            x.weeks(1);
            Due.due("BRINGS " + b + ": in STORE", x.rule(5), (1 << b) - 1);
        }
        HaulWages x = Due.bay("plain 9 1;".repeat(5) + "one 1;");
        x.hide(1);
        x.hide(3);
        x.hide(4);
        x.weeks(1);
        Due.due("1 and 3, not 4", x.rule(5), 15);
    }

    private static void bringsAllIfFewer() {
        Due.sentence("as many as one BRINGS (all, if there are fewer)");
        HaulWages x = Due.bay("plain 9 1;plain 9 1;plain 9 1;one 1;brings 2;");
        x.hide(2);
        x.weeks(1);
        Due.due("one of them", x.rule(5), 7);
        x.weeks(1);
        Due.due("none of them", x.rule(5), 7);
        x.set(1, 8);
        Edge.hideAll(x);
        x.weeks(1);
        Due.due("three, where 8 might be", x.rule(5), 7);
        Due.due("WEEK", x.rule(2), 3);
        Due.due("no GOODS", Due.bay("one 1;brings 8;").runs(60, 1), 0);
    }

    private static void byWeeksBeyondTheLastWeek() {
        Due.sentence("BY WEEKS: as it would be from now on");
        String text = "plain 1 9;plain 9 8;plain 5 5;plain 1 4;one 20;one 1;hooter 1;brings 8;";
        HaulWages late = Due.bay(text);
        Edge.toLastWeek(late);
        late.train(0, 1, 0);
        late.train(1, 1, 0);
        HaulWages x = Due.bay(text);
        Due.due("STRENGTHS are as at first", late.one(0, 0) * 100 + late.one(1, 0), 2001);
        Due.due("WEEK", late.rule(2), 999);
        for (int n : new int[] {1, 60}) {
            for (int what = 0; what < 5; what++) {
                Due.due("runs(" + n + ", " + what + ")", late.runs(n, what), x.runs(n, what));
            }
            Due.due("ahead(0, n, 0)", late.ahead(0, n, 0), x.ahead(0, n, 0));
            Due.due("fair(n, 1)", late.fair(n, 1), x.fair(n, 1));
            Due.due("swap(n, 1)", late.swap(n, 1), x.swap(n, 1));
            Due.due("lose(n, 1)", late.lose(n, 1), x.lose(n, 1));
            Due.due("kind(0, n, 1)", late.kind(0, n, 1), x.kind(0, n, 1));
            Due.due("drift(7, n, 0)", late.drift(7, n, 0), x.drift(7, n, 0));
        }
        Due.due("runs(60, 0)", late.runs(60, 0), 780);
        Due.due("rich(0, 540)", late.rich(0, 540), 60);
        Due.due("gone(0)", late.gone(0), 0);
        Due.due("mean(0, 2, 0)", late.mean(0, 2, 0), x.mean(0, 2, 0));
        Due.due("see(20, 0, 180)", late.see(20, 0, 180), 1);
        Due.due("strengths(1)", late.strengths(1) >> 1 & 1, 1);
        Due.due("WEEK stays", late.rule(2), 999);
    }

    private static void fractions() {
        Due.sentence("Fractions are in lowest terms, the denominator above 0 (0 is 0 by 1)");
        HaulWages x = Due.bay("plain 1 5;one 1;brings 0;");
        for (int v = 0; v <= 10; v++) {
            int[] top = {1, 9, 4, 7, 3, 1, 2, 3, 1, 1, 0};
            int[] bottom = {1, 10, 5, 10, 5, 2, 5, 10, 5, 10, 1};
            Due.due("luck(" + v + ", 0, 0)", x.luck(v, 0, 0), top[v]);
            Due.due("luck(" + v + ", 0, 1)", x.luck(v, 0, 1), bottom[v]);
        }
        Due.due("mean(8, 1, 0): 1 by 1", x.mean(8, 1, 0), 1);
        Due.due("mean(8, 1, 1): 1 by 1", x.mean(8, 1, 1), 1);
        Due.due("mean(10, 2, 0): 0", x.mean(10, 2, 0), 0);
        Due.due("mean(10, 2, 1): by 1", x.mean(10, 2, 1), 1);
        Due.due("mean(5, 0, 0): 0", x.mean(5, 0, 0), 0);
        Due.due("mean(5, 0, 1): by 1", x.mean(5, 0, 1), 1);
    }
}
