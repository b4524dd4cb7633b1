/** The bounds that promises 20 to 26 name: arms, need, fair, swap, lose, price, kind. */
public final class BoundsOfBestTest {
    private static final int BAD = HaulWages.BAD, STATE = HaulWages.STATE, NONE = HaulWages.NONE;
    // As they stand the strong one takes 9 in each WEEK and the weak one nothing; else 17 are taken.
    private static final String WRONG_PLACES = "plain 1 9;plain 9 8;one 20;one 1;hooter 1;brings 8;";

    public static void main(String[] args) {
        armsWhom();
        armsWhat();
        armsUpToStrength();
        armsLeastNumber();
        armsOfNothing();
        needWhomAndWhat();
        needLeastAndMost();
        needByNone();
        fairInWeeks();
        fairWhat();
        fairHooters();
        fairOfNobody();
        swapInWeeks();
        swapWhat();
        swapLeastAndGreatest();
        swapByNone();
        loseInWeeks();
        loseWhat();
        loseWhich();
        loseNone();
        priceWhich();
        priceLeastAndMost();
        priceByNone();
        kindWhich();
        kindInWeeks();
        kindWhat();
        kindsFirstAndLast();
        Due.finish();
    }

    private static void armsWhom() {
        Due.sentence("arms: there is no such ONE: BAD");
        HaulWages x = Due.bay("plain 3 5;one 3;one 2;one 3;one 2;");
        Edge.bounds("arms(_, 0)", p -> x.arms(p, 0), 0, 1, 3, 0);
        HaulWages nobody = Due.bay("plain 3 5;");
        Edge.bad("arms(_, 0) of nobody", p -> nobody.arms(p, 0), 0, -1);
    }

    private static void armsWhat() {
        Due.sentence("arms: which (what 0), how much (1), HEFT of them (2); BAD");
        HaulWages x = Due.bay("plain 3 5;plain 2 4;one 5;");
        Edge.bounds("arms(0, _)", what -> x.arms(0, what), 0, 3, 2, 5);
        Due.due("arms(0, 1)", x.arms(0, 1), 9);
    }

    private static void armsUpToStrength() {
        Due.sentence("arms: HEFT together is no more than STRENGTH");
        HaulWages x = Due.bay("plain 3 5;plain 2 4;one 1;");
        int[] bits = {0, 2, 1, 1, 3, 3};
        for (int s = 1; s <= 6; s++) {
            x.train(0, 0, s);
            Due.due("STRENGTH " + s, x.arms(0, 0), bits[s - 1]);
        }
        HaulWages all = Due.bay("plain 2 1;".repeat(4) + "plain 3 1;".repeat(4) + "one 20;");
        Due.due("20 of 20", all.arms(0, 0), 255);
        Due.due("20 of 20, HEFT", all.arms(0, 2), 20);
        all.train(0, 0, 19);
        Due.due("19 of 20: the last is left", all.arms(0, 0), 127);
        Due.due("19 of 20, how much", all.arms(0, 1), 7);
    }

    private static void armsLeastNumber() {
        Due.sentence("arms: of several the least such number");
        HaulWages x = Due.bay("plain 2 4;plain 2 4;plain 4 8;plain 1 0;one 4;");
        Due.due("3 is less than 4", x.arms(0, 0), 3);
        x.hide(0);
        Due.due("4, without the one that PAYS nothing", x.arms(0, 0), 4);
        x.train(0, 0, 5);
        Due.due("4, though there is room for it", x.arms(0, 0), 4);
    }

    private static void armsOfNothing() {
        Due.sentence("arms: of the GOODS in STORE: none, too heavy, all TAKEN");
        HaulWages[] rows = {Due.bay("one 20;"), Due.bay("plain 9 9;one 8;"), Due.bay("plain 9 9;one 20;")};
        rows[2].hide(0);
        for (HaulWages x : rows) {
            for (int what = 0; what < 3; what++) {
                Due.due("arms(0, " + what + ")", x.arms(0, what), 0);
            }
        }
        rows[2].set(0, 0);
        rows[2].fill();
        Due.due("the HOOTER does not count", rows[2].arms(0, 0), 1);
    }

    private static void needWhomAndWhat() {
        Due.sentence("need: there is no such ONE, GOOD: BAD");
        HaulWages x = Due.bay("plain 3 5;plain 2 4;one 9;one 9;hooter 1;");
        Edge.bounds("need(_, 1)", p -> x.need(p, 1), 0, 2, 1, 2);
        Edge.bounds("need(0, _)", g -> x.need(0, g), 0, 3, 1, 2);
        HaulWages nobody = Due.bay("plain 3 5;");
        Edge.bad("need(_, 0) of nobody", p -> nobody.need(p, 0), 0, -1);
        HaulWages none = Due.bay("one 3;");
        Edge.bad("need(0, _) of none", g -> none.need(0, g), 0, -1);
        Due.due("need(-1, -1)", x.need(-1, -1), BAD);
    }

    private static void needLeastAndMost() {
        Due.sentence("need: the least STRENGTH (1 to 20)");
        HaulWages x = Due.bay("plain 1 5;awkward 9 4;one 9;");
        Due.due("1", x.need(0, 0), 1);
        Due.due("18 and 1 that is taken first", x.need(0, 1), 19);
        x.alter(0, 1, 2);
        Due.due("18 and 2 that is taken first", x.need(0, 1), 20);
        x.alter(0, 1, 3);
        Due.due("18 and 3 would be 21", x.need(0, 1), NONE);
        x.hide(0);
        Due.due("18 alone", x.need(0, 1), 18);
        Due.due("STRENGTH stays", x.one(0, 0), 9);
    }

    private static void needByNone() {
        Due.sentence("need: NONE: by none");
        HaulWages x = Due.bay("plain 1 5;one 9;one 9;");
        Due.due("the first takes it", x.need(1, 0), NONE);
        x.hide(0);
        Due.due("it is TAKEN", x.need(0, 0), NONE);
        x.fill();
        x.set(0, 0);
        Due.due("no round", x.need(0, 0), NONE);
    }

    private static void fairInWeeks() {
        Due.sentence("fair: behind n WEEKS (0 to 60); BAD");
        HaulWages x = Due.bay("plain 1 5;plain 1 4;one 9;one 9;brings 8;");
        Edge.bounds("fair(_, 0)", n -> x.fair(n, 0), 0, 0, 60, 1);
        Edge.bounds("fair(_, 1)", n -> x.fair(n, 1), 0, 0, 60, 240);
        x.train(0, 1, 6);
        x.train(1, 1, 7);
        Due.due("fair(0, 1): as it is", x.fair(0, 1), 6);
    }

    private static void fairWhat() {
        Due.sentence("fair: what 0, 1; BAD");
        HaulWages x = Due.bay("plain 1 5;plain 1 4;one 9;one 9;");
        Edge.bounds("fair(1, _)", what -> x.fair(1, what), 0, 1, 1, 4);
    }

    private static void fairHooters() {
        Due.sentence("fair: the HOOTER (0 to 6), of several the first");
        HaulWages x = Due.bay("plain 1 1;".repeat(7) + "one 20;");
        Due.due("6 rounds, though 7 would be more", x.fair(1, 0), 6);
        Due.due("6 of 7", x.fair(1, 1), 6);
        x.hide(6);
        x.hide(5);
        Due.due("5 rounds, as many by 6", x.fair(1, 0), 5);
        Edge.hideAll(x);
        Due.due("none is as good as any", x.fair(1, 0), 0);
        // Every GOOD but one PAYS nothing, and he takes that one first.
        Due.due("one round", Due.bay("plain 1 0;plain 1 1;one 20;").fair(1, 0), 1);
        HaulWages rich = Due.bay("plain 1 9;one 20;");
        rich.train(0, 1, 999);
        Due.due("he has 999", rich.fair(60, 0), 0);
        Due.due("he has 999: how much", rich.fair(60, 1), 999);
    }

    private static void fairOfNobody() {
        Due.sentence("fair: BAD; STATE: there is nobody");
        HaulWages x = Due.bay("plain 1 5;");
        Edge.bounds("fair(_, 0) of nobody", n -> x.fair(n, 0), 0, STATE, 60, STATE);
        Edge.bounds("fair(1, _) of nobody", what -> x.fair(1, what), 0, STATE, 1, STATE);
        Due.due("one alone", Due.bay("one 5;").fair(60, 0), 0);
    }

    private static void swapInWeeks() {
        Due.sentence("swap: behind n WEEKS (0 to 60); BAD");
        HaulWages x = Due.bay(WRONG_PLACES);
        Edge.bounds("swap(_, 0)", n -> x.swap(n, 0), 0, NONE, 60, 1);
        Edge.bounds("swap(_, 1)", n -> x.swap(n, 1), 0, NONE, 60, 1020);
        Due.due("swap(59, 1)", x.swap(59, 1), 1003);
    }

    private static void swapWhat() {
        Due.sentence("swap: what 0, 1; BAD");
        HaulWages x = Due.bay(WRONG_PLACES);
        Edge.bounds("swap(1, _)", what -> x.swap(1, what), 0, 1, 1, 17);
        Edge.bad("swap(0, _), NONE else", what -> x.swap(0, what), 0, 1);
    }

    private static void swapLeastAndGreatest() {
        Due.sentence("swap: 10 times the lesser and the greater, of several the least");
        String goods = "plain 1 9;plain 9 8;plain 9 7;plain 9 6;hooter 1;";
        Due.due("0 and 1", Due.bay(goods + "one 20;one 1;").swap(1, 0), 1);
        Due.due("0 and 1, of 0 and 1, 0 and 2", Due.bay("plain 1 9;plain 9 8;one 20;one 1;one 1;hooter 1;").swap(1, 0), 1);
        Due.due("0 and 2, of 0 and 2, 0 and 3", Due.bay(goods + "one 20;one 20;one 1;one 1;").swap(1, 0), 2);
        Due.due("0 and 3", Due.bay(goods + "one 20;one 20;one 20;one 1;").swap(1, 0), 3);
        String light = "plain 1 9;plain 2 8;plain 9 7;plain 9 6;hooter 1;";
        Due.due("1 and 2", Due.bay(light + "one 1;one 20;one 2;").swap(1, 0), 12);
        Due.due("1 and 3", Due.bay(light + "one 1;one 20;one 20;one 2;").swap(1, 0), 13);
        Due.due("1 and 3, how much", Due.bay(light + "one 1;one 20;one 20;one 2;").swap(1, 1), 30);
        Due.due("2 and 3",
            Due.bay("plain 1 9;plain 2 8;plain 3 7;plain 9 6;one 1;one 2;one 20;one 3;hooter 1;").swap(1, 0), 23);
    }

    private static void swapByNone() {
        Due.sentence("swap: more than as it is; NONE: by none");
        Due.due("nobody", Due.bay("plain 1 9;").swap(60, 0), NONE);
        Due.due("one alone", Due.bay("plain 1 9;one 9;").swap(60, 0), NONE);
        Due.due("as much as it is", Due.bay("plain 1 9;one 9;one 9;").swap(60, 0), NONE);
        Due.due("less than as it is", Due.bay("plain 1 9;plain 9 8;one 1;one 20;hooter 1;brings 8;").swap(60, 0), NONE);
        Due.due("no GOODS", Due.bay("one 9;one 8;").swap(60, 1), NONE);
        HaulWages x = Due.bay(WRONG_PLACES);
        x.train(0, 1, 999);
        x.train(1, 1, 999);
        Due.due("all have 999", x.swap(60, 0), NONE);
        x.train(1, 1, 998);
        Due.due("1 more", x.swap(60, 0), 1);
        Due.due("1 more: how much", x.swap(60, 1), 1);
    }

    private static void loseInWeeks() {
        Due.sentence("lose: behind n WEEKS (0 to 60); BAD");
        // As it is: 5, by which he is BENT, then 8 in each WEEK. Without the last one: 8 in each.
        HaulWages x = Due.bay("plain 1 4;plain 1 4;plain 5 5;one 5;brings 2;");
        Edge.bounds("lose(_, 0)", n -> x.lose(n, 0), 0, NONE, 60, 2);
        Edge.bounds("lose(_, 1)", n -> x.lose(n, 1), 0, NONE, 60, 480);
        Due.due("lose(59, 1)", x.lose(59, 1), 472);
    }

    private static void loseWhat() {
        Due.sentence("lose: what 0, 1; BAD");
        HaulWages x = Due.bay("plain 1 4;plain 1 4;plain 5 5;one 5;brings 2;");
        Edge.bounds("lose(1, _)", what -> x.lose(1, what), 0, 2, 1, 8);
        Edge.bad("lose(0, _), NONE else", what -> x.lose(0, what), 0, 1);
    }

    private static void loseWhich() {
        Due.sentence("lose: the GOOD in STORE, of several the first");
        Due.due("the first GOOD", Due.bay("plain 5 5;plain 1 4;plain 1 4;one 5;").lose(1, 0), 0);
        HaulWages eight = Due.bay("plain9 0;".repeat(5) + "plain1 4;plain1 4;plain5 5;one5;");
        Due.due("the last of eight", eight.lose(1, 0), 7);
        HaulWages two = Due.bay("plain 9 0;plain 5 5;plain 5 5;plain 1 4;plain 1 4;one 5;one 5;");
        Due.due("of two the first", two.lose(1, 0), 1);
        two.hide(1);
        // As it is: 5, and 4 and 4. Without the other: 8 alone.
        Due.due("one of the two is TAKEN", two.lose(1, 0), NONE);
    }

    private static void loseNone() {
        Due.sentence("lose: more than as it is; NONE: none");
        Due.due("no GOODS", Due.bay("one 9;").lose(60, 0), NONE);
        Due.due("nobody", Due.bay("plain 1 9;").lose(60, 0), NONE);
        Due.due("as much as it is", Due.bay("plain 1 9;plain 1 9;one 1;hooter 1;brings 8;").lose(60, 0), NONE);
        Due.due("less than as it is", Due.bay("plain 1 9;one 9;brings 0;").lose(60, 0), NONE);
        HaulWages x = Due.bay("plain 5 5;plain 1 4;plain 1 4;one 5;");
        Edge.hideAll(x);
        Due.due("all are TAKEN", x.lose(1, 0), NONE);
        x.fill();
        x.train(0, 1, 994);
        Due.due("5 are all that he can get", x.lose(1, 0), NONE);
        x.train(0, 1, 993);
        Due.due("6 are more than 5", x.lose(1, 0), 0);
        Due.due("6 are more than 5: how much", x.lose(1, 1), 6);
    }

    private static void priceWhich() {
        Due.sentence("price: there is no such GOOD: BAD");
        HaulWages x = Due.bay("plain 1 5;plain 1 4;one 9;hooter 1;");
        Edge.bounds("price(_)", x::price, 0, 4, 1, 6);
        HaulWages none = Due.bay("one 9;");
        Edge.bad("price(_) of none", none::price, 0, -1);
    }

    private static void priceLeastAndMost() {
        Due.sentence("price: the least WORTH (0 to 9)");
        HaulWages x = Due.bay("plain 1 8;plain 1 3;one 1;");
        Due.due("9 is more than 8", x.price(1), 9);
        x.alter(0, 2, 9);
        Due.due("9 is not more than 9", x.price(1), NONE);
        Due.due("the first of several", x.price(0), 3);
        x.alter(1, 2, 0);
        Due.due("0, the first of several", x.price(0), 0);
        x.hide(0);
        Due.due("0, there is no other", x.price(1), 0);
        Due.due("WORTH stays", x.good(1, 2), 0);
        HaulWages kinds = Due.bay("plain 1 7;crate 1 0;one 1;");
        Due.due("a crate PAYS twice: 4", kinds.price(1), 4);
        kinds.alter(1, 0, 2);
        Due.due("a feather PAYS 2 less: not even 9", kinds.price(1), NONE);
        kinds.alter(0, 2, 6);
        Due.due("a feather PAYS 2 less: 9", kinds.price(1), 9);
        kinds.hide(0);
        kinds.train(0, 0, 2);
        for (int k = 0; k < 4; k++) {
            kinds.alter(1, 0, k);
            Due.due("there is no other: 0 by KIND " + k, kinds.price(1), 0);
        }
    }

    private static void priceByNone() {
        Due.sentence("price: NONE: by none");
        HaulWages x = Due.bay("plain 9 5;one 8;");
        Due.due("too heavy", x.price(0), NONE);
        x.train(0, 0, 9);
        Due.due("not too heavy", x.price(0), 0);
        x.hide(0);
        Due.due("it is TAKEN", x.price(0), NONE);
        x.fill();
        x.set(0, 0);
        Due.due("no round", x.price(0), NONE);
        Due.due("nobody", Due.bay("plain 9 5;").price(0), NONE);
    }

    private static void kindWhich() {
        Due.sentence("kind: there is no such GOOD: BAD");
        HaulWages x = Due.bay("plain 1 5;plain 1 4;one 9;brings 8;");
        Edge.bounds("kind(_, 1, 1)", g -> x.kind(g, 1, 1), 0, 14, 1, 13);
        HaulWages none = Due.bay("one 9;");
        Edge.bad("kind(_, 1, 0) of none", g -> none.kind(g, 1, 0), 0, -1);
    }

    private static void kindInWeeks() {
        Due.sentence("kind: behind n WEEKS (0 to 60); BAD");
        HaulWages x = Due.bay("plain 1 5;one 9;brings 8;");
        Edge.bounds("kind(0, _, 0)", n -> x.kind(0, n, 0), 0, 0, 60, 3);
        Edge.bounds("kind(0, _, 1)", n -> x.kind(0, n, 1), 0, 0, 60, 600);
        Due.due("kind(0, 59, 1)", x.kind(0, 59, 1), 590);
    }

    private static void kindWhat() {
        Due.sentence("kind: what 0, 1; BAD");
        HaulWages x = Due.bay("plain 1 5;one 9;brings 8;");
        Edge.bounds("kind(0, 1, _)", what -> x.kind(0, 1, what), 0, 3, 1, 10);
    }

    private static void kindsFirstAndLast() {
        Due.sentence("kind: the KIND of a GOOD by which WAGES of all are most, of several the first");
        HaulWages x = Due.bay("crate 9 9;one 1;");
        Due.due("too heavy by any: the first", x.kind(0, 5, 0), 0);
        Due.due("too heavy by any: how much", x.kind(0, 5, 1), 0);
        x.train(0, 0, 5);
        Due.due("a feather alone can be carried", x.kind(0, 1, 0), 2);
        Due.due("a feather PAYS", x.kind(0, 1, 1), 7);
        x.train(0, 0, 9);
        Due.due("plain it PAYS more", x.kind(0, 1, 0), 0);
        x.train(0, 0, 17);
        Due.due("a crate PAYS most", x.kind(0, 1, 0), 3);
        x.train(0, 0, 16);
        Due.due("one less: plain", x.kind(0, 1, 0), 0);
        Due.due("KIND stays", x.good(0, 0), 3);
        x.train(0, 1, 999);
        Due.due("he has 999: the first", x.kind(0, 60, 0), 0);
        Due.due("he has 999: how much", x.kind(0, 60, 1), 0);
        Due.due("nobody: the first", Due.bay("crate 1 9;").kind(0, 60, 0), 0);
        // Plain it bends him, and is too heavy then; a feather does not.
        HaulWages bent = Due.bay("plain 2 5;one 2;brings 8;");
        Due.due("behind one WEEK", bent.kind(0, 1, 0), 0);
        Due.due("behind two WEEKS", bent.kind(0, 2, 0), 2);
        Due.due("behind two WEEKS, how much", bent.kind(0, 2, 1), 6);
        // Awkward it is left for two that PAY more, as by all KINDS but plain.
        Due.due("of three the first", Due.bay("plain 5 5;plain 1 4;plain 1 4;one 5;").kind(0, 1, 0), 1);
    }
}
