/** Promises 2 to 5: THE TAPE, its TOKENS and FAULTS. */
public final class TextTest {
    private static final int BAD = HaulWages.BAD, STATE = HaulWages.STATE, FULL = HaulWages.FULL;

    public static void main(String[] args) {
        feeding();
        ending();
        textsThatAreTaken();
        textsThatAreRefused();
        bytesBehindTheEnd();
        refusedTextChangesNothing();
        takenTextTellsAll();
        Due.finish();
    }

    private static void feeding() {
        HaulWages x = new HaulWages();
        Due.due("feed(-1)", x.feed(-1), BAD);
        Due.due("feed(128)", x.feed(128), BAD);
        Due.due("feed(0)", x.feed(0), 1);
        Due.due("feed(127)", x.feed(127), 2);
        for (int i = 3; i <= 160; i++) {
            Due.due("feed: byte " + i, x.feed(32), i);
        }
        Due.due("feed: byte 161", x.feed(32), FULL);
        Due.due("feed(128) on a full tape", x.feed(128), BAD);
        Due.due("count(2)", x.count(2), 160);
        Due.due("text() of byte 0", x.text(), -10);
        Due.due("fault()", x.fault(), 1);
        Due.due("count(2) behind text()", x.count(2), 0);
    }

    private static void ending() {
        HaulWages x = new HaulWages();
        Due.due("end(0) of nothing", x.end(0), 0);
        Due.due("end(1) of nothing", x.end(1), BAD);
        Due.feedAll(x, "one 7;xyz");
        Due.due("end(-1)", x.end(-1), BAD);
        Due.due("end(10)", x.end(10), BAD);
        Due.due("end(9)", x.end(9), 9);
        Due.due("end(6)", x.end(6), 9);
        Due.due("end(7)", x.end(7), BAD);
        Due.due("count(2)", x.count(2), 6);
        Due.due("text()", x.text(), 1);
        Due.due("one(0, 0)", x.one(0, 0), 7);
    }

    private static void taken(String text, int lines) {
        HaulWages x = new HaulWages();
        Due.due("text() of '" + text + "'", Due.tell(x, text), lines);
        Due.due("fault() of '" + text + "'", x.fault(), 0);
    }

    private static void textsThatAreTaken() {
        taken("", 0);
        taken("    ", 0);
        taken("plain5 6;one12;", 2);
        taken("plain 05 06 ; one 07;", 2);
        taken("  crate  9   0  ;  ", 1);
        taken("hooter0;brings0;", 2);
        taken("hooter 6;brings 8;", 2);
        taken("one 1;one 20;one 1;one 20;", 4);
        taken("plain 1 0;awkward 9 9;feather 1 9;crate 9 0;plain 1 1;plain 1 1;plain 1 1;plain 1 1;", 8);
        HaulWages x = Due.bay("feather3 09;crate 4 5;one 13;brings 7;hooter 5;");
        int[][] goods = {{2, 3, 9, 0}, {3, 4, 5, 0}};
        for (int g = 0; g < 2; g++) {
            for (int what = 0; what < 4; what++) {
                Due.due("good(" + g + ", " + what + ")", x.good(g, what), goods[g][what]);
            }
        }
        Due.due("STRENGTH", x.one(0, 0), 13);
        Due.due("HOOTER", x.rule(3), 5);
        Due.due("BRINGS", x.rule(4), 7);
    }

    private static void refused(String text, int place, int fault) {
        HaulWages x = new HaulWages();
        Due.due("text() of '" + text + "'", Due.tell(x, text), -10 - place);
        Due.due("fault() of '" + text + "'", x.fault(), fault);
        Due.due("count(2) behind '" + text + "'", x.count(2), 0);
        Due.due("text() of nothing", x.text(), 0);
        Due.due("fault() of nothing", x.fault(), 0);
    }

    private static void textsThatAreRefused() {
        refused("plain 123 4;", 6, 1);
        refused("plain 12345678901234567890 4;", 6, 1);
        refused("plain 5 6;\n", 10, 1);
        refused("Plain 5 6;", 0, 1);
        refused(" plain 5, 6;", 8, 1);
        refused("555", 0, 1);
        refused("plain 5 6;{", 10, 1);
        refused("plain 5 6;`", 10, 1);
        refused("one :", 4, 1);
        refused("one /", 4, 1);
        refused("plain 5 6", 9, 2);
        refused("plain 5 6  ", 11, 2);
        refused("plain", 5, 2);
        refused("plainx 5 6;", 0, 2);
        refused("plai 5 6;", 0, 2);
        refused("  pla in 5 6;", 2, 2);
        refused("xlain 5 6;", 0, 2);
        refused("z", 0, 2);
        refused("a", 0, 2);
        refused("plain plain", 6, 2);
        refused("plainone 5", 0, 2);
        refused(";", 0, 2);
        refused("one 5;;", 6, 2);
        refused("5", 0, 2);
        refused("one 5 5;", 6, 2);
        refused("one 5 one", 6, 2);
        refused("one ;", 4, 2);
        refused("plain 0 123;", 6, 3);
        refused("plain 10 1;", 6, 3);
        refused("plain 5 10;", 8, 3);
        refused("one 0;", 4, 3);
        refused("one 21;", 4, 3);
        refused("one 99", 4, 3);
        refused("hooter 7;", 7, 3);
        refused("brings 9;", 7, 3);
        refused("hooter 1; hooter 99", 10, 4);
        refused("brings 1;one 1;brings", 15, 4);
        refused("hooter 1;brings 1;hooter 1;", 18, 4);
        refused("plain 1 1;".repeat(8) + " feather", 81, 5);
        refused("plain 1 1;".repeat(8) + "crate", 80, 5);
        refused("plain 1 1;".repeat(8) + "plain", 80, 5);
        refused("one 1;".repeat(4) + "one 77;", 24, 5);
        refused("a".repeat(160), 0, 2);
        refused("one 5;".repeat(4) + " ".repeat(135) + ";", 159, 2);
        refused("one 5;".repeat(4) + " ".repeat(133) + "one", 157, 5);
        refused("one 5;" + " ".repeat(151) + "one", 160, 2);
    }

    private static void bytesBehindTheEnd() {
        HaulWages x = new HaulWages();
        Due.feedAll(x, "one 5555");
        x.end(6);
        Due.due("text() of 'one 55'", x.text(), -14);
        Due.due("fault() of 'one 55'", x.fault(), 3);
        Due.feedAll(x, "one 5;ones");
        x.end(9);
        Due.due("text() of 'one 5;one'", x.text(), -19);
        Due.due("fault() of 'one 5;one'", x.fault(), 2);
        Due.feedAll(x, "one 5;    ");
        x.end(6);
        Due.due("text() of 'one 5;'", x.text(), 1);
    }

    private static void refusedTextChangesNothing() {
        HaulWages x = Due.bay("plain 2 3;one 9;hooter 3;brings 4;");
        x.weeks(1);
        x.keep(0);
        x.see(0, 0, 3);
        Due.due("a text with a FAULT", Due.tell(x, "crate 1 1;one 1;one 2;hooter 0;brings 0;oops"), -50);
        Due.due("fault()", x.fault(), 2);
        int[] rules = {1, 1, 1, 3, 4, 1, 3};
        for (int what = 0; what < rules.length; what++) {
            Due.due("rule(" + what + ") behind a FAULT", x.rule(what), rules[what]);
        }
        Due.due("good(0, 0)", x.good(0, 0), 0);
        Due.due("good(0, 1)", x.good(0, 1), 2);
        Due.due("SEEN", x.count(0), 1);
        Due.due("IMAGES", x.count(1), 1);
    }

    private static void takenTextTellsAll() {
        HaulWages x = Due.bay("plain 2 3;plain 2 3;one 9;hooter 3;brings 4;");
        x.weeks(2);
        x.keep(0);
        x.keep(1);
        x.see(0, 0, 3);
        x.sheet(0, 2, 5);
        x.lay(0, 0, 3);
        x.read(0, 1, 0, 1);
        x.hide(0);
        Due.due("a text more", Due.tell(x, "crate 1 1;one 6;"), 2);
        int[] rules = {1, 1, 0, 2, 2, 1, 0};
        for (int what = 0; what < rules.length; what++) {
            Due.due("rule(" + what + ") behind a text more", x.rule(what), rules[what]);
        }
        Due.due("TAKEN", x.good(0, 3), 0);
        Due.due("WAGES", x.one(0, 1), 0);
        Due.due("SEEN", x.count(0), 0);
        Due.due("IMAGES", x.count(1), 0);
        Due.due("back(0)", x.back(0), STATE);
        Due.due("back(1)", x.back(1), STATE);
        Due.due("CELLS of SHEET 0", x.count(3), 5);
        Due.due("torn()", x.torn(), 3);
    }
}
