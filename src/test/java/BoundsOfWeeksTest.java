/** The bounds that promises 15 to 19 name: weeks, runs, ahead, gone, rich. */
public final class BoundsOfWeeksTest {
    private static final int BAD = HaulWages.BAD, FULL = HaulWages.FULL, NONE = HaulWages.NONE;
    // He takes 7 in each WEEK, and is never BENT.
    private static final String STEADY = "plain 1 7;one 9;brings 8;";

    public static void main(String[] args) {
        weeksAtOnce();
        theLastWeek();
        fullByOne();
        badAheadOfFull();
        runsInWeeks();
        runsWhat();
        runsOfNobody();
        aheadInWeeks();
        aheadWhom();
        aheadWhat();
        goneWhich();
        goneThisWeek();
        goneLate();
        goneInNone();
        richWhom();
        richBehind();
        richWages();
        Due.finish();
    }

    private static void weeksAtOnce() {
        Due.sentence("weeks: n WEEKS (0 to 30): by how much WAGES of all are more; BAD");
        HaulWages x = Due.bay(STEADY);
        Edge.bounds("weeks(_)", x::weeks, 0, 0, 30, 210);
        Due.due("WEEK", x.rule(2), 30);
        Due.due("WAGES", x.one(0, 1), 210);
    }

    /** A bay whose WEEK is that one. */
    private static HaulWages inWeek(int week) {
        HaulWages x = Due.bay(STEADY);
        for (int w = 0; w + 30 <= week; w += 30) {
            x.weeks(30);
        }
        x.weeks(week % 30);
        Due.due("WEEK", x.rule(2), week);
        x.train(0, 1, 0);
        return x;
    }

    private static void theLastWeek() {
        Due.sentence("weeks: FULL: WEEK would be 1000 or more");
        HaulWages x = inWeek(969);
        Due.due("from 969 on: weeks(30)", x.weeks(30), 210);
        Due.due("WEEK", x.rule(2), 999);
        for (int n = 1; n <= 30; n++) {
            Due.due("from 999 on: weeks(" + n + ")", x.weeks(n), FULL);
        }
        Due.due("from 999 on: weeks(0)", x.weeks(0), 0);
        Due.due("WEEK", x.rule(2), 999);
        Due.due("WAGES", x.one(0, 1), 210);
    }

    private static void fullByOne() {
        Due.sentence("weeks: FULL: the last that is taken, the first that is refused");
        HaulWages x = inWeek(970);
        Due.due("from 970 on: weeks(30)", x.weeks(30), FULL);
        Due.due("it did not begin: WEEK", x.rule(2), 970);
        Due.due("it did not begin: WAGES", x.one(0, 1), 0);
        Due.due("from 970 on: weeks(29)", x.weeks(29), 203);
        x = inWeek(998);
        Due.due("from 998 on: weeks(2)", x.weeks(2), FULL);
        Due.due("from 998 on: weeks(1)", x.weeks(1), 7);
        Due.due("from 999 on: weeks(1)", x.weeks(1), FULL);
        Due.tell(x, STEADY);
        Due.due("from 0 on again", x.weeks(1), 7);
    }

    private static void badAheadOfFull() {
        Due.sentence("weeks: BAD; FULL: the first that fits");
        HaulWages x = inWeek(999);
        Edge.bounds("weeks(_)", x::weeks, 0, 0, 30, FULL);
    }

    private static void runsInWeeks() {
        Due.sentence("runs: n of them (0 to 60); BAD");
        HaulWages x = Due.bay("plain 3 5;plain 2 4;one 5;hooter 2;brings 1;");
        // 5 and 4 in the first WEEK, by which he is BENT, then 5 in each; the second GOOD never comes back.
        Edge.bounds("runs(_, 0)", n -> x.runs(n, 0), 0, 0, 60, 304);
        Edge.bounds("runs(_, 1)", n -> x.runs(n, 1), 0, 3, 60, 1);
        Edge.bounds("runs(_, 2)", n -> x.runs(n, 2), 0, 0, 60, 1);
        Edge.bounds("runs(_, 3)", n -> x.runs(n, 3), 0, 0, 60, 61);
        Edge.bounds("runs(_, 4)", n -> x.runs(n, 4), 0, 0, 60, 304);
    }

    private static void runsWhat() {
        Due.sentence("runs: what 0 to 4; BAD");
        HaulWages x = Due.bay("plain 3 5;plain 2 4;one 5;one 1;");
        Edge.bounds("runs(1, _)", what -> x.runs(1, what), 0, 9, 4, 0);
        Edge.bounds("runs(0, _)", what -> x.runs(0, what), 0, 0, 4, 0);
        HaulWages most = Due.bay("plain1 9;".repeat(8) + "one20;".repeat(4) + "hooter6;brings8;");
        Due.due("taken in 60 WEEKS at most", most.runs(60, 3), 480);
        for (int p = 0; p < 4; p++) {
            most.train(p, 1, 900);
        }
        Due.due("all WAGES are 999 then", most.runs(60, 0), 396);
        Due.due("the least of them", most.runs(60, 4), 999);
        most = Due.bay("plain1 9;".repeat(8) + "one1;".repeat(4) + "hooter6;brings8;");
        Due.due("BENT in 60 WEEKS at most", most.runs(60, 2), 240);
    }

    private static void runsOfNobody() {
        Due.sentence("runs: the least WAGES of any ONE then (4; 0 of nobody)");
        HaulWages x = Due.bay("plain 3 5;brings 0;");
        x.hide(0);
        Edge.bounds("runs(_, 4)", n -> x.runs(n, 4), 0, 0, 60, 0);
        Edge.bounds("runs(_, 0)", n -> x.runs(n, 0), 0, 0, 60, 0);
        Edge.bounds("runs(_, 3)", n -> x.runs(n, 3), 0, 0, 60, 0);
        Due.due("none is brought", x.runs(60, 1), 0);
        x.set(1, 1);
        Due.due("one is brought", x.runs(1, 1), 1);
        HaulWages gone = Due.bay("one 5;");
        gone.train(0, 1, 40);
        Due.due("the least of one alone", gone.runs(5, 4), 40);
        Due.tell(gone, "plain 3 5;");
        Due.due("he is gone: the least of nobody", gone.runs(5, 4), 0);
        HaulWages last = Due.bay("one 5;one 5;one 5;one 5;");
        for (int p = 0; p < 4; p++) {
            last.train(p, 1, 40 - p);
        }
        Due.due("the least is of the last", last.runs(0, 4), 37);
        last.train(0, 1, 36);
        Due.due("the least is of the first", last.runs(0, 4), 36);
    }

    private static void aheadInWeeks() {
        Due.sentence("ahead: n of them (0 to 60); BAD");
        HaulWages x = Due.bay("plain 3 5;plain 2 4;one 5;brings 1;");
        Edge.bounds("ahead(0, _, 0)", n -> x.ahead(0, n, 0), 0, 0, 60, 304);
        Edge.bounds("ahead(0, _, 1)", n -> x.ahead(0, n, 1), 0, 5, 60, 4);
    }

    private static void aheadWhom() {
        Due.sentence("ahead: there is no such ONE: BAD");
        HaulWages x = Due.bay("plain 3 5;one 5;one 6;one 7;one 8;");
        Edge.bounds("ahead(_, 1, 1)", p -> x.ahead(p, 1, 1), 0, 5, 3, 8);
        HaulWages nobody = Due.bay("plain 3 5;");
        Edge.bad("ahead(_, 1, 0) of nobody", p -> nobody.ahead(p, 1, 0), 0, -1);
    }

    private static void aheadWhat() {
        Due.sentence("ahead: WAGES of a ONE then (what 0), STRENGTH (1); BAD");
        HaulWages x = Due.bay("plain 5 3;one 5;");
        Edge.bounds("ahead(0, 1, _)", what -> x.ahead(0, 1, what), 0, 3, 1, 4);
    }

    private static void goneWhich() {
        Due.sentence("gone: there is no such GOOD: BAD");
        HaulWages x = Due.bay("plain 3 5;plain 3 4;one 3;brings 0;");
        // The first bends him: the other is too heavy then.
        Edge.bounds("gone(_)", x::gone, 0, 0, 1, NONE);
        HaulWages none = Due.bay("one 5;");
        Edge.bad("gone(_) of none", none::gone, 0, -1);
    }

    private static void goneThisWeek() {
        Due.sentence("gone: in which of the next ones (0 is this one)");
        HaulWages x = Due.bay("plain 1 9;plain 1 8;plain 1 7;plain 1 6;one 9;hooter 1;brings 0;");
        for (int g = 0; g < 4; g++) {
            Due.due("gone(" + g + ")", x.gone(g), g);
        }
        x.hide(0);
        Due.due("gone(0), hidden, never brought", x.gone(0), NONE);
        Due.due("gone(1), now the first", x.gone(1), 0);
        x.set(1, 1);
        Due.due("gone(0), brought behind this WEEK", x.gone(0), 1);
        x.weeks(1);
        Due.due("gone(0), from the next WEEK on", x.gone(0), 0);
        Due.due("gone(1), taken and never brought", x.gone(1), NONE);
    }

    private static void goneLate() {
        Due.sentence("gone: in which of the next ones (to 60)");
        // The latest that long searches found: the strong ones are BENT down one by one before the last GOOD is brought.
        HaulWages x = Due.bay("crate 9 2;awkward 6 3;feather 5 2;feather 3 0;plain 7 2;plain 1 5;feather 1 9;awkward 1 9;"
            + "one 15;one 20;one 3;one 3;hooter 3;brings 3;");
        int[] hidden = {1, 2, 3, 7};
        for (int g : hidden) {
            x.hide(g);
        }
        Due.due("gone(7)", x.gone(7), 51);
        x.weeks(1);
        Due.due("gone(7), a WEEK later", x.gone(7), 50);
        x.weeks(30);
        Due.due("gone(7), 31 WEEKS later", x.gone(7), 20);
        x.weeks(20);
        Due.due("gone(7), in this WEEK", x.gone(7), 0);
        Due.due("he takes it", x.one(0, 2), 128);
    }

    private static void goneInNone() {
        Due.sentence("gone: NONE: in none");
        HaulWages x = Due.bay("plain 5 5;one 4;");
        Due.due("too heavy", x.gone(0), NONE);
        x.train(0, 0, 5);
        Due.due("not too heavy", x.gone(0), 0);
        x.set(0, 0);
        Due.due("no round", x.gone(0), NONE);
        Due.due("nobody", Due.bay("plain 5 5;").gone(0), NONE);
    }

    private static void richWhom() {
        Due.sentence("rich: there is no such ONE: BAD");
        HaulWages x = Due.bay("plain 1 5;one 5;one 6;one 7;one 8;brings 8;hooter 1;");
        Edge.bounds("rich(_, 5)", p -> x.rich(p, 5), 0, 1, 3, NONE);
        HaulWages nobody = Due.bay("plain 1 5;");
        Edge.bad("rich(_, 0) of nobody", p -> nobody.rich(p, 0), 0, -1);
    }

    private static void richBehind() {
        Due.sentence("rich: behind how many (0 to 60); NONE: behind none");
        HaulWages x = Due.bay(STEADY);
        Due.due("rich(0, 0)", x.rich(0, 0), 0);
        Due.due("rich(0, 1)", x.rich(0, 1), 1);
        Due.due("rich(0, 7)", x.rich(0, 7), 1);
        Due.due("rich(0, 8)", x.rich(0, 8), 2);
        Due.due("rich(0, 413)", x.rich(0, 413), 59);
        Due.due("rich(0, 414)", x.rich(0, 414), 60);
        Due.due("rich(0, 420)", x.rich(0, 420), 60);
        Due.due("rich(0, 421)", x.rich(0, 421), NONE);
        x.train(0, 1, 421);
        Due.due("rich(0, 421), as it is", x.rich(0, 421), 0);
        Due.due("rich(0, 422)", x.rich(0, 422), 1);
    }

    private static void richWages() {
        Due.sentence("rich: WAGES are v (0 to 999) or more; BAD");
        HaulWages x = Due.bay(STEADY);
        x.train(0, 1, 990);
        Edge.bounds("rich(0, _)", v -> x.rich(0, v), 0, 0, 999, 2);
        HaulWages poor = Due.bay("one 5;");
        Edge.bounds("rich(0, _) of no GOODS", v -> poor.rich(0, v), 0, 0, 999, NONE);
        Due.due("rich(0, 1)", poor.rich(0, 1), NONE);
        Due.due("rich(1, 1000)", poor.rich(1, 1000), BAD);
    }
}
