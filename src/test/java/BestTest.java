/** Promises 20 to 26: what is best. */
public final class BestTest {
    private static final int BAD = HaulWages.BAD, STATE = HaulWages.STATE, NONE = HaulWages.NONE;

    public static void main(String[] args) {
        fullArms();
        strengthNeeded();
        fairHooters();
        places();
        thingsToHide();
        prices();
        bestKinds();
        Due.finish();
    }

    private static void armful(HaulWages x, String why, int bits, int pays, int heft) {
        Due.due("arms(0, 0): " + why, x.arms(0, 0), bits);
        Due.due("arms(0, 1): " + why, x.arms(0, 1), pays);
        Due.due("arms(0, 2): " + why, x.arms(0, 2), heft);
    }

    private static void fullArms() {
        HaulWages x = Due.bay("plain 3 5;plain 2 4;plain 2 3;one 4;hooter 0;");
        armful(x, "two lesser ones PAY more", 6, 7, 4);
        x.hide(2);
        armful(x, "what is in STORE alone", 1, 5, 3);
        armful(Due.bay("plain 2 4;plain 2 4;plain 2 4;one 4;"), "the least such number", 3, 8, 4);
        armful(Due.bay("plain 9 9;one 8;"), "too heavy", 0, 0, 0);
        armful(Due.bay("plain 1 0;plain 1 3;one 5;"), "none that PAYS nothing", 2, 3, 1);
        armful(Due.bay("one 5;"), "no GOODS", 0, 0, 0);
        armful(Due.bay("feather 9 9;crate 3 4;plain 2 2;awkward 2 3;one 10;"), "by KIND", 3, 15, 10);
        x = Due.bay("plain 1 1;".repeat(8) + "one 20;one 3;");
        Due.due("all eight", x.arms(0, 0), 255);
        Due.due("the second ONE", x.arms(1, 0), 7);
        Due.due("arms(2, 0)", x.arms(2, 0), BAD);
        Due.due("arms(-1, 0)", x.arms(-1, 0), BAD);
        Due.due("arms(0, 3)", x.arms(0, 3), BAD);
        Due.due("arms(0, -1)", x.arms(0, -1), BAD);
    }

    private static void strengthNeeded() {
        HaulWages x = Due.bay("plain 3 5;plain 2 4;one 1;one 20;hooter 1;");
        Due.due("need(0, 0)", x.need(0, 0), 3);
        Due.due("need(0, 1)", x.need(0, 1), 2);
        Due.due("need(1, 0)", x.need(1, 0), 3);
        Due.due("need(1, 1)", x.need(1, 1), 2);
        x.train(0, 0, 20);
        Due.due("need(1, 0): the first takes it", x.need(1, 0), NONE);
        Due.due("need(1, 1)", x.need(1, 1), 2);
        x.hide(1);
        Due.due("need(1, 1): it is TAKEN", x.need(1, 1), NONE);
        Due.due("need(0, 2)", x.need(0, 2), BAD);
        Due.due("need(0, -1)", x.need(0, -1), BAD);
        Due.due("need(2, 0)", x.need(2, 0), BAD);
        Due.due("need(-1, 0)", x.need(-1, 0), BAD);
        Due.due("STRENGTH stays", x.one(0, 0), 20);
        x = Due.bay("awkward 9 1;plain 2 9;one 1;hooter 2;");
        Due.due("need of 18 and 2", x.need(0, 0), 20);
        x.set(0, 1);
        Due.due("need, the other first", x.need(0, 0), NONE);
        Due.due("need of 1", Due.bay("plain 1 0;one 9;").need(0, 0), 1);
    }

    private static void fairHooters() {
        HaulWages x = Due.bay("plain 1 5;plain 1 4;one 1;one 1;hooter 0;brings 8;");
        Due.due("fair(0, 0)", x.fair(0, 0), 0);
        Due.due("fair(0, 1)", x.fair(0, 1), 0);
        Due.due("fair(1, 0)", x.fair(1, 0), 1);
        Due.due("fair(1, 1)", x.fair(1, 1), 4);
        Due.due("fair(60, 1)", x.fair(60, 1), 240);
        Due.due("HOOTER stays", x.rule(3), 0);
        Due.due("fair(-1, 0)", x.fair(-1, 0), BAD);
        Due.due("fair(61, 0)", x.fair(61, 0), BAD);
        Due.due("fair(1, 2)", x.fair(1, 2), BAD);
        Due.due("fair(1, -1)", x.fair(1, -1), BAD);
        // Six rounds alone bring him all six.
        x = Due.bay("plain 1 1;".repeat(6) + "one 9;");
        Due.due("fair: six rounds", x.fair(1, 0), 6);
        Due.due("fair: how much", x.fair(1, 1), 6);
        x.train(0, 1, 50);
        Due.due("fair: WAGES there were count", x.fair(1, 1), 56);
        // More rounds leave less for the weak one later: what the strong one takes is not brought back.
        x = Due.bay("plain 1 9;plain 1 5;plain 1 1;plain 1 1;one 20;one 1;brings 0;");
        Due.due("fair(3, 0)", x.fair(3, 0), 1);
        Due.due("fair(3, 1)", x.fair(3, 1), 6);
        x = Due.bay("plain 1 1;");
        Due.due("fair of nobody", x.fair(1, 0), STATE);
        Due.due("fair of nobody, BAD first", x.fair(61, 0), BAD);
    }

    private static void places() {
        HaulWages x = Due.bay("plain 1 9;plain 9 8;one 20;one 1;hooter 1;brings 0;");
        Due.due("swap(1, 0)", x.swap(1, 0), 1);
        Due.due("swap(1, 1)", x.swap(1, 1), 17);
        Due.due("swap(0, 0)", x.swap(0, 0), NONE);
        Due.due("swap(0, 1)", x.swap(0, 1), NONE);
        // Behind two WEEKS all is taken in either order.
        Due.due("swap(2, 0)", x.swap(2, 0), NONE);
        x.train(0, 1, 100);
        Due.due("swap(1, 1): more than now", x.swap(1, 1), 17);
        x.train(0, 1, 999);
        Due.due("swap(1, 1): he has 999", x.swap(1, 1), 9);
        Due.due("places stay", x.one(0, 0), 20);
        Due.due("swap(-1, 0)", x.swap(-1, 0), BAD);
        Due.due("swap(61, 0)", x.swap(61, 0), BAD);
        Due.due("swap(1, 2)", x.swap(1, 2), BAD);
        Due.due("swap(1, -1)", x.swap(1, -1), BAD);
        x = Due.bay("plain 1 9;plain 9 8;one 20;one 1;one 1;hooter 1;brings 0;");
        Due.due("swap: of several the least", x.swap(1, 0), 1);
        x = Due.bay("plain 1 9;plain 9 8;plain 9 7;one 1;one 20;one 20;hooter 1;brings 0;");
        Due.due("swap: all is best", x.swap(1, 0), NONE);
        x = Due.bay("plain 1 9;plain 9 8;plain 9 7;one 20;one 20;one 1;hooter 1;brings 0;");
        Due.due("swap: the first and the last", x.swap(1, 0), 2);
        Due.due("swap: how much", x.swap(1, 1), 24);
        // Each can take just one, the strong one whichever is left: he had better be the last.
        x = Due.bay("plain 1 9;plain 2 8;plain 9 7;one 1;one 20;one 2;hooter 1;brings 0;");
        Due.due("swap: the second and the third", x.swap(1, 0), 12);
        Due.due("swap: the second and the third, how much", x.swap(1, 1), 24);
        x = Due.bay("plain 1 9;plain 2 8;plain 3 7;plain 9 6;one 1;one 2;one 20;one 3;hooter 1;brings 0;");
        Due.due("swap: the last two", x.swap(1, 0), 23);
        Due.due("swap: the last two, how much", x.swap(1, 1), 30);
        Due.due("swap of one alone", Due.bay("plain 1 9;one 9;").swap(5, 0), NONE);
    }

    private static void thingsToHide() {
        HaulWages x = Due.bay("plain 5 5;plain 1 4;plain 1 4;one 5;hooter 2;brings 0;");
        Due.due("lose(1, 0)", x.lose(1, 0), 0);
        Due.due("lose(1, 1)", x.lose(1, 1), 8);
        Due.due("lose(0, 0)", x.lose(0, 0), NONE);
        Due.due("in STORE", x.rule(5), 7);
        x.train(0, 1, 200);
        Due.due("lose(1, 1): more than now", x.lose(1, 1), 8);
        x.train(0, 1, 0);
        x.set(1, 8);
        Due.due("lose(2, 0): as much in the end", x.lose(2, 0), NONE);
        x.set(1, 0);
        x.set(0, 1);
        Due.due("lose(1, 0): one round", x.lose(1, 0), NONE);
        x.set(0, 2);
        x.hide(0);
        Due.due("lose(1, 0): it is TAKEN", x.lose(1, 0), NONE);
        Due.due("lose(-1, 0)", x.lose(-1, 0), BAD);
        Due.due("lose(61, 0)", x.lose(61, 0), BAD);
        Due.due("lose(1, 2)", x.lose(1, 2), BAD);
        Due.due("lose(1, -1)", x.lose(1, -1), BAD);
        x = Due.bay("plain 1 1;plain 5 5;plain 5 5;plain 1 4;plain 1 4;one 5;one 5;hooter 2;brings 0;");
        // As it is: 5 and 5. Without one of the two: 5, and 4 and 4.
        Due.due("lose: of several the first", x.lose(1, 0), 1);
        Due.due("lose: how much", x.lose(1, 1), 13);
        x = Due.bay("plain 9 9;plain 5 5;plain 1 4;plain 1 4;one 5;hooter 2;brings 0;");
        x.hide(0);
        Due.due("lose: the first is TAKEN, the second had better be hidden", x.lose(1, 0), 1);
        Due.due("lose: how much", x.lose(1, 1), 8);
        Due.due("what would be taken in two WEEKS", x.mean(0, 2, 0), 13);
        Due.due("lose: it is in STORE yet", x.lose(1, 0), 1);
    }

    private static void prices() {
        HaulWages x = Due.bay("plain 2 9;plain 2 4;one 2;hooter 1;");
        Due.due("price(0): as much, and the first", x.price(0), 4);
        Due.due("price(1)", x.price(1), NONE);
        x.alter(0, 2, 8);
        Due.due("price(1): more", x.price(1), 9);
        Due.due("WORTH stays", x.good(1, 2), 4);
        x.alter(0, 0, 2);
        Due.due("price(0) of a feather", x.price(0), 6);
        x.alter(0, 0, 3);
        x.alter(0, 1, 1);
        Due.due("price(0) of a crate", x.price(0), 2);
        x.hide(0);
        Due.due("price(0): it is TAKEN", x.price(0), NONE);
        Due.due("price(1): alone", x.price(1), 0);
        Due.due("price(2)", x.price(2), BAD);
        Due.due("price(-1)", x.price(-1), BAD);
        Due.due("price: too heavy", Due.bay("plain 9 9;one 8;").price(0), NONE);
        Due.due("price: nobody", Due.bay("plain 9 9;").price(0), NONE);
    }

    private static void bestKinds() {
        // 8 and 1, as a crate, are more than 4 and 1, though the least of the two is 1 by each KIND.
        HaulWages two = Due.bay("plain 4 4;plain 1 1;one 8;one 1;hooter 1;brings 8;");
        Due.due("kind: WAGES of all", two.kind(0, 1, 0), 3);
        Due.due("kind: WAGES of all, how much", two.kind(0, 1, 1), 9);
        HaulWages x = Due.bay("plain 4 4;one 8;hooter 1;brings 8;");
        Due.due("kind(0, 1, 0)", x.kind(0, 1, 0), 3);
        Due.due("kind(0, 1, 1)", x.kind(0, 1, 1), 8);
        Due.due("kind(0, 0, 0)", x.kind(0, 0, 0), 0);
        Due.due("kind(0, 0, 1)", x.kind(0, 0, 1), 0);
        x.train(0, 1, 100);
        Due.due("kind(0, 1, 1): more than now", x.kind(0, 1, 1), 8);
        x.train(0, 0, 4);
        Due.due("kind(0, 60, 0)", x.kind(0, 60, 0), 2);
        Due.due("kind(0, 60, 1)", x.kind(0, 60, 1), 120);
        Due.due("kind(0, 1, 0)", x.kind(0, 1, 0), 0);
        Due.due("kind(0, 1, 1)", x.kind(0, 1, 1), 4);
        Due.due("KIND stays", x.good(0, 0), 0);
        x.hide(0);
        Due.due("kind of what is TAKEN", x.kind(0, 2, 1), 4);
        Due.due("kind(1, 1, 0)", x.kind(1, 1, 0), BAD);
        Due.due("kind(-1, 1, 0)", x.kind(-1, 1, 0), BAD);
        Due.due("kind(0, 61, 0)", x.kind(0, 61, 0), BAD);
        Due.due("kind(0, -1, 0)", x.kind(0, -1, 0), BAD);
        Due.due("kind(0, 1, 2)", x.kind(0, 1, 2), BAD);
        Due.due("kind(0, 1, -1)", x.kind(0, 1, -1), BAD);
    }
}
