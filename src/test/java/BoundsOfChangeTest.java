/** The bounds that promises 9 to 14 name: alter, train, set, stock, hide, fill. */
public final class BoundsOfChangeTest {
    private static final int BAD = HaulWages.BAD, STATE = HaulWages.STATE, FULL = HaulWages.FULL;
    private static final String EIGHT = "plain 1 1;".repeat(8);

    public static void main(String[] args) {
        altering();
        alteringWhat();
        alteringWhom();
        training();
        trainingWhat();
        trainingWhom();
        settingHooter();
        settingBrings();
        settingWhat();
        stocking();
        stockIsFull();
        stockIsBadAheadOfFull();
        hiding();
        hidingWhatIsTaken();
        filling();
        Due.finish();
    }

    private static void altering() {
        Due.sentence("alter: KIND, WEIGHT, WORTH of a GOOD becomes v: what it was; BAD");
        HaulWages x = Due.bay("awkward 5 6;");
        Edge.bounds("alter(0, 0, _)", v -> x.alter(0, 0, v), 0, 1, 3, 0);
        Due.due("KIND", x.good(0, 0), 3);
        Edge.bounds("alter(0, 1, _)", v -> x.alter(0, 1, v), 1, 5, 9, 1);
        Due.due("WEIGHT", x.good(0, 1), 9);
        Edge.bounds("alter(0, 2, _)", v -> x.alter(0, 2, v), 0, 6, 9, 0);
        Due.due("WORTH", x.good(0, 2), 9);
        Due.due("HEFT", x.good(0, 4), 17);
        Due.due("PAYS", x.good(0, 5), 18);
        Due.due("as it is: what it was", x.alter(0, 2, 9), 9);
    }

    private static void alteringWhat() {
        Due.sentence("alter: what 0 to 2; BAD");
        HaulWages x = Due.bay("awkward 5 6;");
        Edge.bounds("alter(0, _, 1)", what -> x.alter(0, what, 1), 0, 1, 2, 6);
        Due.due("WEIGHT stays", x.good(0, 1), 5);
        Due.due("alter(0, 3, 0)", x.alter(0, 3, 0), BAD);
        Due.due("TAKEN is not altered", x.good(0, 3), 0);
    }

    private static void alteringWhom() {
        Due.sentence("alter: there is no such GOOD: BAD");
        HaulWages x = Due.bay("plain 5 6;plain 7 8;");
        Edge.bounds("alter(_, 1, 3)", g -> x.alter(g, 1, 3), 0, 5, 1, 7);
        x.stock(0, 9, 9);
        Edge.bounds("alter(_, 2, 4)", g -> x.alter(g, 2, 4), 0, 6, 2, 9);
        HaulWages none = Due.bay("one 5;");
        Edge.bad("alter(_, 0, 0) of none", g -> none.alter(g, 0, 0), 0, -1);
    }

    private static void training() {
        Due.sentence("train: STRENGTH, WAGES of a ONE becomes v: what it was; BAD");
        HaulWages x = Due.bay("one 5;");
        Edge.bounds("train(0, 0, _)", v -> x.train(0, 0, v), 1, 5, 20, 1);
        Due.due("STRENGTH", x.one(0, 0), 20);
        Edge.bounds("train(0, 1, _)", v -> x.train(0, 1, v), 0, 0, 999, 0);
        Due.due("WAGES", x.one(0, 1), 999);
        Due.due("as it is: what it was", x.train(0, 1, 999), 999);
        // What the other takes, this one does not.
        Due.due("WAGES 0 is no STRENGTH", x.train(0, 0, 0), BAD);
        Due.due("WAGES 999 are no STRENGTH", x.train(0, 0, 999), BAD);
        Due.due("WAGES 0", x.train(0, 1, 0), 999);
    }

    private static void trainingWhat() {
        Due.sentence("train: what 0, 1; BAD");
        HaulWages x = Due.bay("one 5;");
        Edge.bounds("train(0, _, 7)", what -> x.train(0, what, 7), 0, 5, 1, 0);
        Due.due("STRENGTH", x.one(0, 0), 7);
        Due.due("WAGES", x.one(0, 1), 7);
    }

    private static void trainingWhom() {
        Due.sentence("train: there is no such ONE: BAD");
        HaulWages x = Due.bay("one 5;one 6;one 7;one 8;");
        Edge.bounds("train(_, 0, 3)", p -> x.train(p, 0, 3), 0, 5, 3, 8);
        HaulWages two = Due.bay("one 5;one 6;");
        Edge.bounds("train(_, 1, 3)", p -> two.train(p, 1, 3), 0, 0, 1, 0);
        HaulWages nobody = Due.bay("plain 5 5;");
        Edge.bad("train(_, 0, 1) of nobody", p -> nobody.train(p, 0, 1), 0, -1);
    }

    private static void settingHooter() {
        Due.sentence("set: HOOTER becomes v: what it was; BAD");
        HaulWages x = new HaulWages();
        Edge.bounds("set(0, _)", v -> x.set(0, v), 0, 2, 6, 0);
        Due.due("HOOTER", x.rule(3), 6);
        Due.due("BRINGS stays", x.rule(4), 2);
    }

    private static void settingBrings() {
        Due.sentence("set: BRINGS becomes v: what it was; BAD");
        HaulWages x = new HaulWages();
        Edge.bounds("set(1, _)", v -> x.set(1, v), 0, 2, 8, 0);
        Due.due("BRINGS", x.rule(4), 8);
        Due.due("HOOTER stays", x.rule(3), 2);
    }

    private static void settingWhat() {
        Due.sentence("set: what 0, 1; BAD");
        HaulWages x = Due.bay("hooter 3;brings 5;");
        Edge.bounds("set(_, 1)", what -> x.set(what, 1), 0, 3, 1, 5);
        Due.due("HOOTER", x.rule(3), 1);
        Due.due("BRINGS", x.rule(4), 1);
    }

    private static void stocking() {
        Due.sentence("stock: a GOOD more: how many there are; BAD");
        HaulWages x = new HaulWages();
        Edge.bounds("stock(_, 5, 5)", v -> x.stock(v, 5, 5), 0, 1, 3, 2);
        Edge.bounds("stock(1, _, 5)", v -> x.stock(1, v, 5), 1, 3, 9, 4);
        Edge.bounds("stock(2, 5, _)", v -> x.stock(2, 5, v), 0, 5, 9, 6);
        int[][] goods = {{0, 5, 5}, {3, 5, 5}, {1, 1, 5}, {1, 9, 5}, {2, 5, 0}, {2, 5, 9}};
        for (int g = 0; g < goods.length; g++) {
            for (int what = 0; what < 3; what++) {
                Due.due("good(" + g + ", " + what + ")", x.good(g, what), goods[g][what]);
            }
        }
        Due.due("GOODS", x.rule(0), 6);
    }

    private static void stockIsFull() {
        Due.sentence("stock: FULL");
        HaulWages x = new HaulWages();
        for (int g = 1; g <= 8; g++) {
            Due.due("GOOD " + g, x.stock(0, g, 0), g);
        }
        Due.due("GOOD 9", x.stock(3, 9, 9), FULL);
        Due.due("GOOD 9 again", x.stock(3, 9, 9), FULL);
        Due.due("GOODS", x.rule(0), 8);
        Due.due("the last is as it was", x.good(7, 1), 8);
        Edge.hideAll(x);
        Due.due("FULL, though all are TAKEN", x.stock(0, 1, 1), FULL);
        Due.due("by text(), FULL", Due.bay(EIGHT).stock(0, 1, 1), FULL);
        Due.due("by text(), one less", Due.bay("plain 1 1;".repeat(7)).stock(0, 1, 1), 8);
    }

    private static void stockIsBadAheadOfFull() {
        Due.sentence("stock: BAD; FULL: the first that fits");
        HaulWages x = Due.bay(EIGHT);
        Edge.bounds("stock(_, 1, 1)", v -> x.stock(v, 1, 1), 0, FULL, 3, FULL);
        Edge.bounds("stock(0, _, 1)", v -> x.stock(0, v, 1), 1, FULL, 9, FULL);
        Edge.bounds("stock(0, 1, _)", v -> x.stock(0, 1, v), 0, FULL, 9, FULL);
    }

    private static void hiding() {
        Due.sentence("hide: a GOOD in STORE is hidden: 1; BAD");
        HaulWages x = Due.bay(EIGHT);
        Edge.bounds("hide(_)", x::hide, 0, 1, 7, 1);
        Due.due("in STORE", x.rule(5), 126);
        Due.due("good(0, 3)", x.good(0, 3), 1);
        Due.due("good(1, 3)", x.good(1, 3), 0);
        Due.due("good(7, 3)", x.good(7, 3), 1);
        HaulWages two = Due.bay("plain 1 1;plain 1 1;one 5;");
        Edge.bounds("hide(_) of two", two::hide, 0, 1, 1, 1);
        HaulWages none = Due.bay("one 5;");
        Edge.bad("hide(_) of none", none::hide, 0, -1);
    }

    private static void hidingWhatIsTaken() {
        Due.sentence("hide: STATE: it is TAKEN");
        HaulWages x = Due.bay("plain 1 1;plain 9 1;one 5;brings 0;");
        Due.due("hide(1)", x.hide(1), 1);
        Due.due("hide(1), hidden", x.hide(1), STATE);
        x.weeks(1);
        Due.due("hide(0), carried away", x.hide(0), STATE);
        Due.due("hide(2), BAD, though all are TAKEN", x.hide(2), BAD);
        x.fill();
        Due.due("hide(0), in STORE again", x.hide(0), 1);
    }

    private static void filling() {
        Due.sentence("fill: all GOODS are in STORE: how many were TAKEN");
        HaulWages x = Due.bay(EIGHT + "brings 0;");
        Due.due("none was", x.fill(), 0);
        Edge.hideAll(x);
        Due.due("all eight were", x.fill(), 8);
        Due.due("in STORE", x.rule(5), 255);
        x.hide(7);
        Due.due("the last was", x.fill(), 1);
        Due.due("in STORE", x.rule(5), 255);
        x.hide(0);
        Due.due("the first was", x.fill(), 1);
        Due.due("none was any more", x.fill(), 0);
        Due.due("BRINGS stays", x.rule(4), 0);
        Due.due("of no GOODS", new HaulWages().fill(), 0);
    }
}
