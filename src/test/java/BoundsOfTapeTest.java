/** The bounds that the Terms name for THE TAPE, its TOKENS and its FAULTS: each sentence has a test of its own. */
public final class BoundsOfTapeTest {
    private static final int STATE = HaulWages.STATE;
    private static final int NO_TOKEN = 1, MISPLACED = 2, OUT_OF_BOUNDS = 3, SECOND_TIME = 4, TOO_MANY = 5;
    private static final String[] KINDS = {"plain", "awkward", "feather", "crate"};

    public static void main(String[] args) {
        bytesOfTheTape();
        placesFromZero();
        asLongAsMayBe();
        blanks();
        oneBlankAtLeast();
        namesAreOfSmallLetters();
        numbersAreOfOneOrTwoFigures();
        theSign();
        everyOtherByte();
        noLineAtAll();
        asManyLinesAsMayBe();
        wordsOfALine();
        theFirstFaultMet();
        tooLongANumber();
        whereALineBegins();
        whereANumberStands();
        whereTheSignStands();
        theEnd();
        outOfBounds();
        secondTime();
        theNinthAndTheFifth();
        whatNoLineTells();
        nothingIsSeen();
        imagesAreGone();
        sheetsStay();
        Due.finish();
    }

    private static void bytesOfTheTape() {
        Due.sentence("THE TAPE has 160 bytes");
        Edge.taken("one 5;" + " ".repeat(154), 1);
        Edge.taken(" ".repeat(154) + "one 5;", 1);
        Edge.taken(" ".repeat(160), 0);
        // The sign is the 161st byte: it does not come.
        Edge.refused(" ".repeat(155) + "one 5;", 160, MISPLACED);
    }

    private static void placesFromZero() {
        Due.sentence("THE TAPE: places from 0");
        Edge.refused("?", 0, NO_TOKEN);
        Edge.refused(" ?", 1, NO_TOKEN);
        Edge.refused(" ".repeat(159) + "?", 159, NO_TOKEN);
        Edge.refused(" ".repeat(159) + ";", 159, MISPLACED);
        Edge.refused(" ".repeat(158) + "zz", 158, MISPLACED);
    }

    private static void asLongAsMayBe() {
        Due.sentence("TOKENS, each as long as may be");
        Edge.refused("plainplain 1 1;", 0, MISPLACED);
        Edge.refused("oneone 1;", 0, MISPLACED);
        Edge.refused("ones 1;", 0, MISPLACED);
        Edge.refused("on e 1;", 0, MISPLACED);
        Edge.refused("plain 12;", 6, OUT_OF_BOUNDS);
        Edge.refused("one 123;", 4, NO_TOKEN);
        Edge.taken("one 12;", 1);
    }

    private static void blanks() {
        Due.sentence("any number of blanks (32) ahead of, between, behind them");
        Edge.taken("plain1 1;one1;", 2);
        Edge.taken("  plain  1  1  ;  one  1  ;  ", 2);
        Edge.taken(" ".repeat(50) + "one" + " ".repeat(50) + "1" + " ".repeat(50) + ";    ", 1);
        int[] none = {9, 10, 13, 31, 33, 0};
        for (int c : none) {
            Edge.refused("one 1;" + (char) c, 6, NO_TOKEN);
            Edge.refused((char) c + "one 1;", 0, NO_TOKEN);
            Edge.refused("one" + (char) c + "1;", 3, NO_TOKEN);
        }
    }

    private static void oneBlankAtLeast() {
        Due.sentence("one at least between two NAMES, between two NUMBERS; else none is needed");
        Edge.refused("plain plain", 6, MISPLACED);
        Edge.refused("plainplain", 0, MISPLACED);
        Edge.taken("plain 1 1;", 1);
        Edge.refused("plain 11;", 6, OUT_OF_BOUNDS);
        Edge.refused("plain 1;1", 7, MISPLACED);
        Edge.taken("plain1 1;plain1 1;one1;hooter1;brings1;", 5);
        Edge.refused("one1one", 4, MISPLACED);
    }

    private static void namesAreOfSmallLetters() {
        Due.sentence("NAMES (a .. z)");
        Edge.refused("a", 0, MISPLACED);
        Edge.refused("z", 0, MISPLACED);
        Edge.refused("`", 0, NO_TOKEN);
        Edge.refused("{", 0, NO_TOKEN);
        Edge.refused("A", 0, NO_TOKEN);
        Edge.refused("Z", 0, NO_TOKEN);
        Edge.refused("one 1;onE 1;", 6, MISPLACED);
        Edge.refused("one{1;", 3, NO_TOKEN);
        Edge.refused("one`1;", 3, NO_TOKEN);
        Edge.refused("z".repeat(160), 0, MISPLACED);
    }

    private static void numbersAreOfOneOrTwoFigures() {
        Due.sentence("NUMBERS (1 or 2 figures)");
        Edge.taken("one 9;", 1);
        Edge.taken("one 09;", 1);
        Edge.taken("one 10;", 1);
        Edge.taken("brings 0;", 1);
        Edge.taken("brings 00;", 1);
        Edge.refused("one 009;", 4, NO_TOKEN);
        Edge.refused("brings 000;", 7, NO_TOKEN);
        Edge.refused("one /;", 4, NO_TOKEN);
        Edge.refused("one :;", 4, NO_TOKEN);
        Edge.refused("one -1;", 4, NO_TOKEN);
        Edge.refused("one +1;", 4, NO_TOKEN);
        Edge.refused("one 1.;", 5, NO_TOKEN);
    }

    private static void theSign() {
        Due.sentence("TOKENS: the sign ;");
        Edge.taken("one 1;", 1);
        Edge.taken("one 1 ;", 1);
        Edge.refused("one 1:", 5, NO_TOKEN);
        Edge.refused("one 1<", 5, NO_TOKEN);
        Edge.refused("one 1,", 5, NO_TOKEN);
        Edge.refused("one 1;;", 6, MISPLACED);
    }

    private static void everyOtherByte() {
        Due.sentence("every other byte is no TOKEN");
        for (int c = 0; c <= 127; c++) {
            boolean token = c >= 'a' && c <= 'z' || c >= '0' && c <= '9' || c == ';';
            if (c == ' ') {
                Edge.taken("one 1;" + (char) c, 1);
            } else {
                Edge.refused("one 1;" + (char) c, 6, token ? MISPLACED : NO_TOKEN);
            }
        }
    }

    private static void noLineAtAll() {
        Due.sentence("text: { line }, none of them, too");
        Edge.taken("", 0);
        Edge.taken(" ", 0);
        Edge.refused(";", 0, MISPLACED);
    }

    private static void asManyLinesAsMayBe() {
        Due.sentence("text: { line }, as many as there may be");
        String all = "plain1 1;".repeat(8) + "one1;".repeat(4) + "hooter1;brings1;";
        Edge.taken(all, 14);
        Edge.refused(all + "plain", 108, TOO_MANY);
        Edge.refused(all + "one", 108, TOO_MANY);
        Edge.refused(all + "hooter", 108, SECOND_TIME);
        Edge.refused(all + "brings", 108, SECOND_TIME);
    }

    private static void wordsOfALine() {
        Due.sentence("a NAME that begins no line");
        String[] words = {"plain", "awkward", "feather", "crate", "one", "hooter", "brings"};
        for (String word : words) {
            int last = word.length() - 1;
            Edge.refused(word.substring(0, last) + " 1 1;", 0, MISPLACED);
            Edge.refused(word.substring(1) + " 1 1;", 0, MISPLACED);
            Edge.refused(word + "s 1 1;", 0, MISPLACED);
            Edge.refused(word.substring(0, last) + "x 1 1;", 0, MISPLACED);
            Edge.refused("x" + word.substring(1) + " 1 1;", 0, MISPLACED);
            Edge.refused("one 1; x" + word, 7, MISPLACED);
        }
    }

    private static void theFirstFaultMet() {
        Due.sentence("FAULTS, the first met as it is read (a TOKEN is read when the one before has been taken)");
        Edge.refused("x ?", 0, MISPLACED);
        Edge.refused("x 123", 0, MISPLACED);
        Edge.refused("plain 0 ?", 6, OUT_OF_BOUNDS);
        Edge.refused("plain 0?", 6, OUT_OF_BOUNDS);
        Edge.refused("plain 0 123", 6, OUT_OF_BOUNDS);
        Edge.refused("plain ? 0", 6, NO_TOKEN);
        Edge.refused("plain 1 10 ?", 8, OUT_OF_BOUNDS);
        Edge.refused("plain 1 1 ?", 10, NO_TOKEN);
        Edge.refused("plain one ?", 6, MISPLACED);
        Edge.refused("plain 123 0", 6, NO_TOKEN);
        Edge.refused("one 21 one", 4, OUT_OF_BOUNDS);
        Edge.refused("hooter 7;hooter 1;", 7, OUT_OF_BOUNDS);
        Edge.refused("hooter 1;hooter 7;", 9, SECOND_TIME);
        Edge.refused("hooter 1;hooter ?", 9, SECOND_TIME);
        Edge.refused("hooter 1 hooter", 9, MISPLACED);
        Edge.refused("one 1;".repeat(4) + "one 0;", 24, TOO_MANY);
        Edge.refused("one 1;".repeat(4) + "one?", 24, TOO_MANY);
        Edge.refused("one 1;".repeat(3) + "one 0;one 1;", 22, OUT_OF_BOUNDS);
        Edge.refused("plain 1 1;".repeat(8) + "plain;", 80, TOO_MANY);
        Edge.refused("plain 1 1;".repeat(8) + "x", 80, MISPLACED);
    }

    private static void tooLongANumber() {
        Due.sentence("FAULT 1: a NUMBER that is too long (its first byte)");
        Edge.refused("one 100;", 4, NO_TOKEN);
        Edge.refused("one " + "1".repeat(156), 4, NO_TOKEN);
        Edge.refused("plain 1 001;", 8, NO_TOKEN);
        Edge.refused("000", 0, NO_TOKEN);
        Edge.refused("one 1 111", 6, NO_TOKEN);
        Edge.refused("one 1;222", 6, NO_TOKEN);
        // Two figures are not too long: the FAULT is another.
        Edge.refused("00", 0, MISPLACED);
        Edge.refused("one 1;22", 6, MISPLACED);
    }

    private static void whereALineBegins() {
        Due.sentence("FAULT 2: a TOKEN that can not stand there, where a line begins");
        Edge.refused("1 plain", 0, MISPLACED);
        Edge.refused("  ;", 2, MISPLACED);
        Edge.refused("hooter 1; 2", 10, MISPLACED);
        Edge.refused("one 1;;one 1;", 6, MISPLACED);
    }

    private static void whereANumberStands() {
        Due.sentence("FAULT 2: a TOKEN that can not stand there, where a NUMBER stands");
        for (String kind : KINDS) {
            int at = kind.length() + 1;
            Edge.refused(kind + " ;", at, MISPLACED);
            Edge.refused(kind + " one", at, MISPLACED);
            Edge.refused(kind + " 1 ;", at + 2, MISPLACED);
            Edge.refused(kind + " 1;", at + 1, MISPLACED);
            Edge.refused(kind + " 1 one", at + 2, MISPLACED);
        }
        String[] words = {"one", "hooter", "brings"};
        for (String word : words) {
            Edge.refused(word + ";", word.length(), MISPLACED);
            Edge.refused(word + " one", word.length() + 1, MISPLACED);
        }
    }

    private static void whereTheSignStands() {
        Due.sentence("FAULT 2: a TOKEN that can not stand there, where the sign stands");
        for (String kind : KINDS) {
            int at = kind.length() + 5;
            Edge.refused(kind + " 1 1 1;", at, MISPLACED);
            Edge.refused(kind + " 1 1 one 1;", at, MISPLACED);
        }
        String[] words = {"one", "hooter", "brings"};
        for (String word : words) {
            Edge.refused(word + " 1 1;", word.length() + 3, MISPLACED);
            Edge.refused(word + " 1 one 1;", word.length() + 3, MISPLACED);
        }
    }

    private static void theEnd() {
        Due.sentence("FAULT 2: or the end: the length");
        String[] cut = {"plain", "plain ", "plain 1", "plain 1   ", "plain 1 1", "plain 1 1 ", "one", "one 1", "hooter",
            "hooter 1", "brings", "brings 1 ", "one 1;one"};
        for (String text : cut) {
            Edge.refused(text, text.length(), MISPLACED);
        }
        Edge.refused("one" + " ".repeat(156), 159, MISPLACED);
        Edge.refused("one" + " ".repeat(157), 160, MISPLACED);
        HaulWages x = new HaulWages();
        Due.feedAll(x, "one 1;one 2;");
        x.end(11);
        Due.due("behind end(11)", x.text(), -21);
        Due.due("fault()", x.fault(), MISPLACED);
    }

    private static void outOfBounds() {
        Due.sentence("FAULT 3: a NUMBER out of its bounds");
        Edge.refused("awkward 0 1;", 8, OUT_OF_BOUNDS);
        Edge.refused("feather 10 1;", 8, OUT_OF_BOUNDS);
        Edge.refused("crate 9 10;", 8, OUT_OF_BOUNDS);
        Edge.refused("one 0", 4, OUT_OF_BOUNDS);
        Edge.refused("one 21", 4, OUT_OF_BOUNDS);
        Edge.refused("hooter 7", 7, OUT_OF_BOUNDS);
        Edge.refused("brings 9", 7, OUT_OF_BOUNDS);
    }

    private static void secondTime() {
        Due.sentence("FAULT 4: hooter, brings for the second time (its NAME)");
        Edge.taken("hooter 1;brings 1;", 2);
        Edge.taken("brings 1;hooter 1;", 2);
        Edge.refused("hooter 1; hooter 1;", 10, SECOND_TIME);
        Edge.refused("brings 1; brings 1;", 10, SECOND_TIME);
        Edge.refused("hooter 2;brings 2;one 1;brings 2;", 24, SECOND_TIME);
        // What was told by one text is no first time for the next.
        HaulWages x = Due.bay("hooter 1;brings 1;");
        Due.due("the next text", Due.tell(x, "hooter 3;brings 3;"), 2);
        Due.due("the next text but one, HOOTER again", Due.tell(x, "hooter 4;hooter 4;"), -19);
        Due.due("behind a FAULT", Due.tell(x, "hooter 5;brings 5;"), 2);
        Due.due("HOOTER", x.rule(3), 5);
    }

    private static void theNinthAndTheFifth() {
        Due.sentence("FAULT 5: the 9th GOOD, the 5th one (its NAME)");
        String eight = "plain1 1;awkward1 1;feather1 1;crate1 1;".repeat(2);
        Edge.taken(eight, 8);
        for (String kind : KINDS) {
            Edge.refused(eight + " " + kind + " 1 1;", eight.length() + 1, TOO_MANY);
        }
        Edge.taken(eight + "one 1;", 9);
        Edge.refused("one 1;one 2;one 3;one 4; one 5;", 25, TOO_MANY);
        Edge.taken("one 1;one 2;one 3;one 4; plain 5 5;", 5);
        // What there was does not count.
        HaulWages x = Due.bay(eight + "one 1;".repeat(4));
        Due.due("eight and four more", Due.tell(x, eight + "one 1;".repeat(4)), 12);
    }

    private static void whatNoLineTells() {
        Due.sentence("A text that is taken tells all, in place of what there was (what no line tells is as at first)");
        HaulWages x = Due.bay("plain 1 1;one 5;hooter 6;brings 8;");
        x.weeks(3);
        x.hide(0);
        Due.due("text() of nothing", x.text(), 0);
        int[] rules = {0, 0, 0, 2, 2, 0, 0};
        for (int what = 0; what < rules.length; what++) {
            Due.due("rule(" + what + ")", x.rule(what), rules[what]);
        }
        Due.due("good(0, 0)", x.good(0, 0), HaulWages.BAD);
        Due.due("one(0, 0)", x.one(0, 0), HaulWages.BAD);
        Due.tell(x, "hooter 5;");
        Due.due("HOOTER told alone: BRINGS", x.rule(4), 2);
        Due.tell(x, "brings 5;");
        Due.due("BRINGS told alone: HOOTER", x.rule(3), 2);
    }

    private static void nothingIsSeen() {
        Due.sentence("A text that is taken: nothing is SEEN");
        HaulWages x = Due.bay("one 5;");
        for (int i = 0; i < 6; i++) {
            x.see(0, 0, 7);
        }
        Due.due("strengths(0)", x.strengths(0), 0);
        Due.tell(x, "one 5;");
        Due.due("SEEN", x.count(0), 0);
        Due.due("strengths(0)", x.strengths(0), 2097150);
        Due.due("see() is the first again", x.see(0, 0, 0), 1);
    }

    private static void imagesAreGone() {
        Due.sentence("A text that is taken: IMAGES are gone");
        HaulWages x = Due.bay("one 5;");
        x.keep(0);
        x.keep(1);
        x.text();
        Due.due("count(1)", x.count(1), 0);
        Due.due("back(0)", x.back(0), STATE);
        Due.due("back(1)", x.back(1), STATE);
        Due.due("keep(0)", x.keep(0), 0);
        Due.due("keep(1)", x.keep(1), 0);
    }

    private static void sheetsStay() {
        Due.sentence("A text that is taken: SHEETS stay");
        HaulWages x = new HaulWages();
        x.sheet(0, 0, 40);
        x.sheet(2, 2, 3);
        Edge.layRow(x, 2, 3, 8, 7);
        Due.tell(x, "plain 1 1;");
        Due.due("count(3)", x.count(3), 40);
        Due.due("SHEET 1 has nothing", x.lay(1, 0, 0), -11);
        Due.due("read(2, 2, 0, 1)", x.read(2, 2, 0, 1), 1);
        Due.due("KIND, WEIGHT, WORTH", x.good(1, 0) * 100 + x.good(1, 1) * 10 + x.good(1, 2), 387);
    }
}
