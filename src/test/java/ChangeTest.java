/** Promises 6 to 14: what there is, what is changed. */
public final class ChangeTest {
    private static final int BAD = HaulWages.BAD, STATE = HaulWages.STATE, FULL = HaulWages.FULL;

    public static void main(String[] args) {
        rules();
        heftAndPays();
        people();
        altering();
        training();
        setting();
        stocking();
        hidingAndFilling();
        Due.finish();
    }

    private static void rules() {
        HaulWages x = Due.bay("plain 3 5;plain 2 4;plain 9 9;one 5;one 1;hooter 3;brings 1;");
        x.weeks(1);
        // The first ONE takes the first two GOODS; one of them is brought back.
        int[] rules = {3, 2, 1, 3, 1, 5, 9};
        for (int what = 0; what < rules.length; what++) {
            Due.due("rule(" + what + ")", x.rule(what), rules[what]);
        }
        Due.due("rule(-1)", x.rule(-1), BAD);
        Due.due("rule(7)", x.rule(7), BAD);
    }

    private static void heftAndPays() {
        HaulWages x = Due.bay("plain 1 1;");
        int[][] heft = {{1, 1, 2, 1, 1}, {2, 2, 4, 1, 3}, {5, 5, 10, 3, 9}, {8, 8, 16, 4, 15}, {9, 9, 18, 5, 17}};
        int[][] pays = {{0, 0, 0, 0, 0}, {1, 1, 1, 0, 2}, {2, 2, 2, 0, 4}, {3, 3, 3, 1, 6}, {9, 9, 9, 7, 18}};
        for (int kind = 0; kind < 4; kind++) {
            x.alter(0, 0, kind);
            for (int i = 0; i < heft.length; i++) {
                x.alter(0, 1, heft[i][0]);
                Due.due("HEFT of KIND " + kind + ", WEIGHT " + heft[i][0], x.good(0, 4), heft[i][kind + 1]);
                x.alter(0, 2, pays[i][0]);
                Due.due("PAYS of KIND " + kind + ", WORTH " + pays[i][0], x.good(0, 5), pays[i][kind + 1]);
            }
        }
        Due.due("good(0, 3) in STORE", x.good(0, 3), 0);
        x.hide(0);
        Due.due("good(0, 3), TAKEN", x.good(0, 3), 1);
        Due.due("good(0, -1)", x.good(0, -1), BAD);
        Due.due("good(0, 6)", x.good(0, 6), BAD);
        Due.due("good(-1, 0)", x.good(-1, 0), BAD);
        Due.due("good(1, 0)", x.good(1, 0), BAD);
    }

    private static void people() {
        // Round 1: the crate (6), the awkward one (5); round 2: a plain one (1) fits the first alone.
        HaulWages x = Due.bay("plain 1 1;awkward 2 5;crate 2 3;one 4;one 4;hooter 2;");
        int[][] ones = {{4, 0, 5, 4}, {4, 0, 2, 4}};
        for (int p = 0; p < 2; p++) {
            for (int what = 0; what < 4; what++) {
                Due.due("one(" + p + ", " + what + ")", x.one(p, what), ones[p][what]);
            }
        }
        Due.due("it is asked alone: STORE", x.rule(5), 7);
        x.train(1, 1, 77);
        Due.due("WAGES", x.one(1, 1), 77);
        x.set(0, 0);
        Due.due("no round: GOODS", x.one(0, 2), 0);
        Due.due("no round: HEFT", x.one(0, 3), 0);
        Due.due("one(0, -1)", x.one(0, -1), BAD);
        Due.due("one(0, 4)", x.one(0, 4), BAD);
        Due.due("one(-1, 0)", x.one(-1, 0), BAD);
        Due.due("one(2, 0)", x.one(2, 0), BAD);
    }

    private static void altering() {
        HaulWages x = Due.bay("plain 5 6;crate 1 1;");
        int[] was = {0, 5, 6};
        int[] least = {0, 1, 0};
        int[] most = {3, 9, 9};
        for (int what = 0; what < 3; what++) {
            Due.due("alter to the most", x.alter(0, what, most[what]), was[what]);
            Due.due("alter above", x.alter(0, what, most[what] + 1), BAD);
            Due.due("alter below", x.alter(0, what, least[what] - 1), BAD);
            Due.due("alter: is", x.good(0, what), most[what]);
            Due.due("alter to the least", x.alter(0, what, least[what]), most[what]);
            Due.due("alter: is", x.good(0, what), least[what]);
        }
        Due.due("alter(0, 3, 1)", x.alter(0, 3, 1), BAD);
        Due.due("alter(0, -1, 1)", x.alter(0, -1, 1), BAD);
        Due.due("alter(2, 0, 1)", x.alter(2, 0, 1), BAD);
        Due.due("alter(-1, 0, 1)", x.alter(-1, 0, 1), BAD);
        Due.due("the other GOOD", x.good(1, 0) * 100 + x.good(1, 1) * 10 + x.good(1, 2), 311);
        x.hide(0);
        x.alter(0, 1, 4);
        Due.due("TAKEN stays", x.good(0, 3), 1);
    }

    private static void training() {
        HaulWages x = Due.bay("one 5;one 6;");
        Due.due("train(0, 0, 20)", x.train(0, 0, 20), 5);
        Due.due("train(0, 0, 21)", x.train(0, 0, 21), BAD);
        Due.due("train(0, 0, 1)", x.train(0, 0, 1), 20);
        Due.due("train(0, 0, 0)", x.train(0, 0, 0), BAD);
        Due.due("STRENGTH", x.one(0, 0), 1);
        Due.due("train(1, 1, 999)", x.train(1, 1, 999), 0);
        Due.due("train(1, 1, 1000)", x.train(1, 1, 1000), BAD);
        Due.due("WAGES", x.one(1, 1), 999);
        Due.due("train(1, 1, 0)", x.train(1, 1, 0), 999);
        Due.due("train(1, 1, -1)", x.train(1, 1, -1), BAD);
        Due.due("train(1, 2, 1)", x.train(1, 2, 1), BAD);
        Due.due("train(1, -1, 1)", x.train(1, -1, 1), BAD);
        Due.due("train(2, 0, 1)", x.train(2, 0, 1), BAD);
        Due.due("train(-1, 0, 1)", x.train(-1, 0, 1), BAD);
    }

    private static void setting() {
        HaulWages x = new HaulWages();
        Due.due("set(0, 6)", x.set(0, 6), 2);
        Due.due("set(0, 7)", x.set(0, 7), BAD);
        Due.due("set(0, -1)", x.set(0, -1), BAD);
        Due.due("set(0, 0)", x.set(0, 0), 6);
        Due.due("set(1, 8)", x.set(1, 8), 2);
        Due.due("set(1, 9)", x.set(1, 9), BAD);
        Due.due("set(1, -1)", x.set(1, -1), BAD);
        Due.due("set(1, 0)", x.set(1, 0), 8);
        Due.due("set(2, 0)", x.set(2, 0), BAD);
        Due.due("set(-1, 0)", x.set(-1, 0), BAD);
        Due.due("HOOTER", x.rule(3), 0);
        Due.due("BRINGS", x.rule(4), 0);
    }

    private static void stocking() {
        HaulWages x = new HaulWages();
        int[][] bad = {{-1, 1, 1}, {4, 1, 1}, {0, 0, 1}, {0, 10, 1}, {0, 1, -1}, {0, 1, 10}};
        for (int[] b : bad) {
            Due.due("stock, BAD", x.stock(b[0], b[1], b[2]), BAD);
        }
        for (int i = 1; i <= 8; i++) {
            Due.due("stock " + i, x.stock(3, 9, i % 2 * 9), i);
        }
        Due.due("stock 9", x.stock(0, 1, 0), FULL);
        for (int[] b : bad) {
            Due.due("stock, BAD ahead of FULL", x.stock(b[0], b[1], b[2]), BAD);
        }
        Due.due("GOODS", x.rule(0), 8);
        Due.due("in STORE", x.rule(5), 255);
        Due.due("the last: KIND", x.good(7, 0), 3);
        Due.due("the last: WEIGHT", x.good(7, 1), 9);
        Due.due("the first: WORTH", x.good(0, 2), 9);
    }

    private static void hidingAndFilling() {
        HaulWages x = Due.bay("plain 1 1;plain 1 1;plain 1 1;");
        Due.due("fill()", x.fill(), 0);
        Due.due("hide(1)", x.hide(1), 1);
        Due.due("hide(1) again", x.hide(1), STATE);
        Due.due("hide(2)", x.hide(2), 1);
        Due.due("hide(3)", x.hide(3), BAD);
        Due.due("hide(-1)", x.hide(-1), BAD);
        Due.due("in STORE", x.rule(5), 1);
        Due.due("fill()", x.fill(), 2);
        Due.due("in STORE", x.rule(5), 7);
        Due.due("fill() again", x.fill(), 0);
        for (int g = 0; g < 5; g++) {
            x.stock(0, 1, 1);
        }
        for (int g = 0; g < 8; g++) {
            x.hide(g);
        }
        Due.due("fill() of eight", x.fill(), 8);
        for (int g = 0; g < 8; g++) {
            x.hide(g);
        }
        Due.tell(x, "plain 1 3;");
        Due.due("what was there is gone: fill()", x.fill(), 0);
        Due.due("what was there is gone: WORTH", x.count(4), 3);
        Due.due("what was there is gone: STORE", x.rule(5), 1);
        Due.due("a GOOD more is in STORE", x.stock(0, 1, 1), 2);
        Due.due("a GOOD more: STORE", x.rule(5), 3);
    }
}
