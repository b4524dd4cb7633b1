/** Promise 1, and what is empty: each call of a new object, with no GOODS, with nobody, with nothing else. */
public final class EmptyTest {
    private static final int BAD = HaulWages.BAD, STATE = HaulWages.STATE, NONE = HaulWages.NONE;

    public static void main(String[] args) {
        newObject();
        newObjectHasNoGoods();
        newObjectHasNobody();
        newObjectHasNoSheets();
        newObjectIsAsked();
        newObjectIsChanged();
        noGoods();
        nobody();
        noRounds();
        nothingIsBrought();
        nothingInStore();
        emptyTape();
        nothingSeen();
        noImage();
        Due.finish();
    }

    private static void newObject() {
        Due.sentence("Promise 1: a new object");
        HaulWages x = new HaulWages();
        int[] rules = {0, 0, 0, 2, 2, 0, 0};
        for (int what = 0; what < rules.length; what++) {
            Due.due("rule(" + what + ")", x.rule(what), rules[what]);
        }
        Due.due("fault()", x.fault(), 0);
        Due.due("torn()", x.torn(), 0);
        HaulWages other = new HaulWages();
        other.stock(0, 1, 1);
        other.set(0, 5);
        Due.due("each by itself: GOODS", x.rule(0), 0);
        Due.due("each by itself: HOOTER", x.rule(3), 2);
    }

    private static void newObjectHasNoGoods() {
        Due.sentence("Promise 1: no GOODS");
        HaulWages x = new HaulWages();
        for (int g = -1; g <= 8; g++) {
            Due.due("good(" + g + ", 0)", x.good(g, 0), BAD);
            Due.due("alter(" + g + ", 0, 0)", x.alter(g, 0, 0), BAD);
            Due.due("hide(" + g + ")", x.hide(g), BAD);
            Due.due("gone(" + g + ")", x.gone(g), BAD);
            Due.due("price(" + g + ")", x.price(g), BAD);
            Due.due("kind(" + g + ", 0, 0)", x.kind(g, 0, 0), BAD);
            Due.due("luck(0, " + g + ", 0)", x.luck(0, g, 0), BAD);
            Due.due("kinds(" + g + ")", x.kinds(g), BAD);
            Due.due("weights(" + g + ")", x.weights(g), BAD);
        }
        Due.due("fill()", x.fill(), 0);
        Due.due("drift(0, 1, 0)", x.drift(0, 1, 0), STATE);
        Due.due("lose(60, 0)", x.lose(60, 0), NONE);
        Due.due("count(4)", x.count(4), 0);
    }

    private static void newObjectHasNobody() {
        Due.sentence("Promise 1: nobody");
        HaulWages x = new HaulWages();
        for (int p = -1; p <= 4; p++) {
            Due.due("one(" + p + ", 0)", x.one(p, 0), BAD);
            Due.due("train(" + p + ", 1, 0)", x.train(p, 1, 0), BAD);
            Due.due("ahead(" + p + ", 0, 0)", x.ahead(p, 0, 0), BAD);
            Due.due("rich(" + p + ", 0)", x.rich(p, 0), BAD);
            Due.due("arms(" + p + ", 0)", x.arms(p, 0), BAD);
            Due.due("need(" + p + ", 0)", x.need(p, 0), BAD);
            Due.due("see(0, " + p + ", 0)", x.see(0, p, 0), BAD);
            Due.due("strengths(" + p + ")", x.strengths(p), BAD);
            Due.due("ask(" + p + ", 0)", x.ask(p, 0), BAD);
        }
        Due.due("fair(0, 0)", x.fair(0, 0), STATE);
        Due.due("swap(60, 0)", x.swap(60, 0), NONE);
        Due.due("count(5)", x.count(5), 0);
    }

    private static void newObjectHasNoSheets() {
        Due.sentence("Promise 1: SHEETS have nothing");
        HaulWages x = new HaulWages();
        Due.due("count(3)", x.count(3), NONE);
        for (int k = 0; k < 4; k++) {
            Due.due("lay(" + k + ", 0, 0)", x.lay(k, 0, 0), -11);
            for (int lane = 0; lane < 3; lane++) {
                Due.due("read(" + k + ", " + lane + ", 0, 1)", x.read(k, lane, 0, 1), 0);
                Due.due("torn()", x.torn(), 1);
                Due.due("read(" + k + ", " + lane + ", 0, 0)", x.read(k, lane, 0, 0), 0);
                Due.due("torn()", x.torn(), 0);
            }
        }
    }

    private static void newObjectIsAsked() {
        Due.sentence("Promise 1: what a new object is asked");
        HaulWages x = new HaulWages();
        for (int n : new int[] {0, 1, 60}) {
            for (int what = 0; what < 5; what++) {
                Due.due("runs(" + n + ", " + what + ")", x.runs(n, what), 0);
            }
            for (int what = 0; what < 2; what++) {
                Due.due("fair(" + n + ", " + what + ")", x.fair(n, what), STATE);
                Due.due("swap(" + n + ", " + what + ")", x.swap(n, what), NONE);
                Due.due("lose(" + n + ", " + what + ")", x.lose(n, what), NONE);
            }
        }
        for (int v = 0; v <= 10; v += 5) {
            for (int n = 0; n <= 2; n++) {
                Due.due("mean(" + v + ", " + n + ", 0)", x.mean(v, n, 0), 0);
                Due.due("mean(" + v + ", " + n + ", 1)", x.mean(v, n, 1), 1);
            }
        }
    }

    private static void newObjectIsChanged() {
        Due.sentence("Promise 1: a new object takes what comes");
        HaulWages x = new HaulWages();
        Due.due("weeks(30)", x.weeks(30), 0);
        Due.due("WEEK", x.rule(2), 30);
        Due.due("set(0, 6)", x.set(0, 6), 2);
        Due.due("keep(1)", x.keep(1), 0);
        Due.due("stock(3, 9, 9)", x.stock(3, 9, 9), 1);
        Due.due("weeks(30) of nobody", x.weeks(30), 0);
        Due.due("back(1)", x.back(1), 30);
        Due.due("GOODS", x.rule(0), 0);
        Due.due("text()", x.text(), 0);
        Due.due("WEEK", x.rule(2), 0);
    }

    private static void noGoods() {
        Due.sentence("no GOODS, but PEOPLE");
        HaulWages x = Due.bay("one 5;one 20;hooter 6;brings 8;");
        Due.due("rule(0)", x.rule(0), 0);
        Due.due("rule(5)", x.rule(5), 0);
        for (int p = 0; p < 2; p++) {
            Due.due("one(p, 2)", x.one(p, 2), 0);
            Due.due("one(p, 3)", x.one(p, 3), 0);
            Due.due("arms(p, 0)", x.arms(p, 0), 0);
            Due.due("need(p, 0)", x.need(p, 0), BAD);
            Due.due("rich(p, 0)", x.rich(p, 0), 0);
            Due.due("rich(p, 1)", x.rich(p, 1), NONE);
            Due.due("strengths(p)", x.strengths(p), 2097150);
            Due.due("ask(p, 0)", x.ask(p, 0), NONE);
            Due.due("ask(p, 1)", x.ask(p, 1), NONE);
        }
        Due.due("ahead(1, 60, 1)", x.ahead(1, 60, 1), 20);
        Due.due("fair(60, 0)", x.fair(60, 0), 0);
        Due.due("fair(60, 1)", x.fair(60, 1), 0);
        Due.due("mean(3, 2, 0)", x.mean(3, 2, 0), 0);
        Due.due("mean(3, 2, 1)", x.mean(3, 2, 1), 1);
        Due.due("drift(1, 60, 0)", x.drift(1, 60, 0), STATE);
        Due.due("weeks(30)", x.weeks(30), 0);
        Due.due("nobody is BENT", x.one(0, 0), 5);
    }

    private static void nobody() {
        Due.sentence("nobody, but GOODS");
        HaulWages x = Due.bay("plain 1 9;crate 1 9;hooter 6;brings 1;");
        Due.due("gone(0)", x.gone(0), NONE);
        Due.due("price(1)", x.price(1), NONE);
        Due.due("kind(1, 60, 0)", x.kind(1, 60, 0), 0);
        Due.due("kind(1, 60, 1)", x.kind(1, 60, 1), 0);
        Due.due("lose(60, 0)", x.lose(60, 0), NONE);
        Due.due("kinds(0)", x.kinds(0), 15);
        Due.due("weights(0)", x.weights(0), 1022);
        Due.due("luck(0, 0, 0)", x.luck(0, 0, 0), 0);
        Due.due("luck(0, 0, 1)", x.luck(0, 0, 1), 1);
        Due.due("drift(9, 60, 0)", x.drift(9, 60, 0), 0);
        Due.due("drift(9, 60, 1)", x.drift(9, 60, 1), 0);
        Due.due("runs(60, 3)", x.runs(60, 3), 0);
        x.hide(0);
        x.hide(1);
        Due.due("weeks(1)", x.weeks(1), 0);
        Due.due("one is brought", x.rule(5), 1);
        Due.due("weeks(1)", x.weeks(1), 0);
        Due.due("the other, too", x.rule(5), 3);
    }

    private static void noRounds() {
        Due.sentence("HOOTER 0: no round");
        HaulWages x = Due.bay("plain 1 9;plain 1 8;one 5;hooter 0;brings 1;");
        Due.due("one(0, 2)", x.one(0, 2), 0);
        Due.due("gone(0)", x.gone(0), NONE);
        Due.due("need(0, 0)", x.need(0, 0), NONE);
        Due.due("price(0)", x.price(0), NONE);
        Due.due("luck(0, 0, 0)", x.luck(0, 0, 0), 0);
        Due.due("runs(60, 3)", x.runs(60, 3), 0);
        x.hide(0);
        x.hide(1);
        Due.due("weeks(1)", x.weeks(1), 0);
        Due.due("one BRINGS all the same", x.rule(5), 1);
        Due.due("WEEK", x.rule(2), 1);
    }

    private static void nothingIsBrought() {
        Due.sentence("BRINGS 0: nothing is in STORE again");
        HaulWages x = Due.bay("plain 1 9;plain 9 8;one 5;brings 0;");
        Due.due("weeks(1)", x.weeks(1), 9);
        Due.due("in STORE", x.rule(5), 2);
        Due.due("weeks(30)", x.weeks(30), 0);
        Due.due("in STORE", x.rule(5), 2);
        Due.due("gone(0)", x.gone(0), NONE);
    }

    private static void nothingInStore() {
        Due.sentence("nothing in STORE");
        HaulWages x = Due.bay("plain 1 9;plain 1 8;one 5;brings 0;");
        Edge.hideAll(x);
        Due.due("rule(5)", x.rule(5), 0);
        Due.due("one(0, 2)", x.one(0, 2), 0);
        Due.due("arms(0, 0)", x.arms(0, 0), 0);
        Due.due("arms(0, 1)", x.arms(0, 1), 0);
        Due.due("lose(60, 0)", x.lose(60, 0), NONE);
        Due.due("need(0, 0)", x.need(0, 0), NONE);
        Due.due("price(0)", x.price(0), NONE);
        Due.due("fair(60, 0)", x.fair(60, 0), 0);
        Due.due("weeks(30)", x.weeks(30), 0);
        Due.due("WORTH of all", x.count(4), 17);
    }

    private static void emptyTape() {
        Due.sentence("an empty TAPE");
        HaulWages x = Due.bay("plain 1 9;one 5;");
        Due.due("count(2)", x.count(2), 0);
        Due.due("end(0)", x.end(0), 0);
        Due.due("end(1)", x.end(1), BAD);
        x.feed('?');
        x.text();
        Due.due("fault() of '?'", x.fault(), 1);
        Due.due("text()", x.text(), 0);
        Due.due("fault()", x.fault(), 0);
        Due.due("GOODS", x.rule(0), 0);
        Due.due("PEOPLE", x.rule(1), 0);
    }

    private static void nothingSeen() {
        Due.sentence("nothing SEEN");
        HaulWages x = Due.bay("plain 2 9;one 5;one 1;brings 8;");
        Due.due("count(0)", x.count(0), 0);
        Due.due("forget(0)", x.forget(0), 0);
        Due.due("forget(1)", x.forget(1), BAD);
        Due.due("kinds(0)", x.kinds(0), 15);
        Due.due("weights(0)", x.weights(0), 1022);
        Due.due("strengths(1)", x.strengths(1), 2097150);
        Due.due("ask(0, 0)", x.ask(0, 0), 20);
        Due.due("ask(0, 1)", x.ask(0, 1), 18);
    }

    private static void noImage() {
        Due.sentence("no IMAGE");
        HaulWages x = Due.bay("plain 2 9;one 5;");
        x.weeks(2);
        Due.due("count(1)", x.count(1), 0);
        Due.due("back(0)", x.back(0), STATE);
        Due.due("back(1)", x.back(1), STATE);
        Due.due("WEEK stays", x.rule(2), 2);
        Due.due("GOODS stay", x.rule(0), 1);
    }
}
