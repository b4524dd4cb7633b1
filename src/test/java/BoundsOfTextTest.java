/** The bounds that promises 2 to 8 name: feed, end, text, fault, rule, good, one. */
public final class BoundsOfTextTest {
    private static final int BAD = HaulWages.BAD, FULL = HaulWages.FULL;
    private static final String CROWD = "plain1 1;".repeat(8) + "one20;".repeat(4) + "hooter6;brings8;";

    public static void main(String[] args) {
        bytes();
        fullTape();
        badAheadOfFull();
        ends();
        endOfAnEmptyTape();
        endOfAFullTape();
        emptyBehindText();
        linesAndPlaces();
        whatWasToldStays();
        latestFault();
        rules();
        rulesAtTheirMost();
        goods();
        goodsAsTheyCome();
        ones();
        Due.finish();
    }

    private static void bytes() {
        Due.sentence("feed: a byte (0 to 127): how many it has; BAD");
        HaulWages x = new HaulWages();
        Edge.bounds("feed(_)", x::feed, 0, 1, 127, 2);
        Due.due("count(2)", x.count(2), 2);
    }

    private static void fullTape() {
        Due.sentence("feed: FULL: more than 160");
        HaulWages x = new HaulWages();
        for (int i = 1; i <= 160; i++) {
            Due.due("byte " + i, x.feed(' '), i);
        }
        Due.due("byte 161", x.feed(' '), FULL);
        Due.due("byte 161 again", x.feed(';'), FULL);
        Due.due("count(2)", x.count(2), 160);
        x.end(159);
        Due.due("the last one once more", x.feed(' '), 160);
        Due.due("FULL once more", x.feed(' '), FULL);
        Due.due("text(): what was FULL did not come", x.text(), 0);
    }

    private static void badAheadOfFull() {
        Due.sentence("feed: BAD; FULL: the first that fits");
        HaulWages x = new HaulWages();
        Due.feedAll(x, " ".repeat(160));
        Edge.bounds("feed(_) on a full TAPE", x::feed, 0, FULL, 127, FULL);
    }

    private static void ends() {
        Due.sentence("end: THE TAPE keeps its first n bytes: how many it had; BAD (n above that, too)");
        HaulWages x = new HaulWages();
        Due.feedAll(x, "one 5;one 6;");
        Edge.bad("end(_)", x::end, 0, 12);
        Due.due("end(12)", x.end(12), 12);
        Due.due("end(6)", x.end(6), 12);
        Edge.bad("end(_)", x::end, 0, 6);
        Due.due("count(2)", x.count(2), 6);
        Due.due("text()", x.text(), 1);
        Due.due("the first bytes", x.one(0, 0), 5);
        Due.feedAll(x, "one 7;");
        Due.due("end(0)", x.end(0), 6);
        Due.due("count(2) behind end(0)", x.count(2), 0);
        Due.due("text() of nothing", x.text(), 0);
    }

    private static void endOfAnEmptyTape() {
        Due.sentence("end: of an empty TAPE");
        HaulWages x = new HaulWages();
        Edge.bounds("end(_)", x::end, 0, 0, 0, 0);
        Due.tell(x, "one 5;");
        Edge.bounds("end(_) behind text()", x::end, 0, 0, 0, 0);
    }

    private static void endOfAFullTape() {
        Due.sentence("end: of a full TAPE");
        HaulWages x = new HaulWages();
        Due.feedAll(x, " ".repeat(161));
        Edge.bad("end(_)", x::end, 0, 160);
        Due.due("end(160)", x.end(160), 160);
        Due.due("end(0)", x.end(0), 160);
        Due.due("end(0) again", x.end(0), 0);
    }

    private static void emptyBehindText() {
        Due.sentence("text: THE TAPE (empty then, by a FAULT, too)");
        HaulWages x = new HaulWages();
        String[] texts = {"one 5;", "?", "x", "one 0;", "hooter 1;hooter", "one 1;".repeat(5), ""};
        for (String text : texts) {
            Due.tell(x, text);
            Due.due("count(2) behind '" + text + "'", x.count(2), 0);
            Due.due("feed() behind '" + text + "'", x.feed(' '), 1);
            Due.due("end(0) behind '" + text + "'", x.end(0), 1);
        }
    }

    private static void linesAndPlaces() {
        Due.sentence("text: how many lines; -10 less the place of its FAULT");
        HaulWages x = new HaulWages();
        Due.due("no line", x.text(), 0);
        Due.due("one line", Due.tell(x, "one 5;"), 1);
        Due.due("all lines that there may be", Due.tell(x, CROWD), 14);
        Due.due("place 0", Due.tell(x, "?"), -10);
        Due.due("place 1", Due.tell(x, " ?"), -11);
        Due.due("place 159", Due.tell(x, " ".repeat(159) + "?"), -169);
        Due.due("place 160, the end of a full TAPE", Due.tell(x, " ".repeat(157) + "one"), -170);
    }

    private static void whatWasToldStays() {
        Due.sentence("text: by a FAULT that which was told stays");
        HaulWages x = Due.bay("crate 9 8;one 17;hooter 5;brings 6;");
        String[] texts = {"plain 1 1;one 1;hooter 1;brings 1;?", "plain 1 1;one 1;hooter 1;brings 1;x",
            "plain 1 1;one 1;hooter 1;brings 9;", "plain 1 1;one 1;hooter 1;hooter 1;", "one 1;".repeat(5),
            "plain1 1;".repeat(9), "plain 1 1;one 1"};
        for (String text : texts) {
            Due.due("a FAULT in '" + text + "'", Due.tell(x, text) <= -10 ? 1 : 0, 1);
            int[] rules = {1, 1, 0, 5, 6, 1, 0};
            for (int what = 0; what < rules.length; what++) {
                Due.due("rule(" + what + ") behind '" + text + "'", x.rule(what), rules[what]);
            }
            Due.due("the GOOD", x.good(0, 0) * 100 + x.good(0, 1) * 10 + x.good(0, 2), 398);
            Due.due("the ONE", x.one(0, 0), 17);
        }
    }

    private static void latestFault() {
        Due.sentence("fault: the FAULT of the latest text(); 0");
        HaulWages x = new HaulWages();
        Due.due("no text()", x.fault(), 0);
        String[] texts = {"?", "x", "one 0;", "hooter 1;hooter", "one 1;".repeat(5), "one 1;", "123", ""};
        int[] faults = {1, 2, 3, 4, 5, 0, 1, 0};
        for (int i = 0; i < texts.length; i++) {
            Due.feedAll(x, texts[i]);
            Due.due("ahead of text()", x.fault(), i == 0 ? 0 : faults[i - 1]);
            x.text();
            Due.due("behind '" + texts[i] + "'", x.fault(), faults[i]);
            Due.due("once more", x.fault(), faults[i]);
        }
    }

    private static void rules() {
        Due.sentence("rule: 0 to 6; BAD");
        HaulWages x = Due.bay("plain 3 5;one 5;one 6;");
        x.train(1, 1, 30);
        Edge.bounds("rule(_)", x::rule, 0, 1, 6, 30);
    }

    private static void rulesAtTheirMost() {
        Due.sentence("rule: all there may be");
        HaulWages x = Due.bay(CROWD);
        Edge.toLastWeek(x);
        for (int p = 0; p < 4; p++) {
            x.train(p, 1, 999);
        }
        int[] most = {8, 4, 999, 6, 8, 255, 3996};
        for (int what = 0; what < most.length; what++) {
            Due.due("rule(" + what + ")", x.rule(what), most[what]);
        }
        Edge.hideAll(x);
        Due.due("none in STORE", x.rule(5), 0);
        Due.tell(x, "hooter 0;brings 0;");
        for (int what = 0; what < most.length; what++) {
            Due.due("rule(" + what + ") of nothing", x.rule(what), 0);
        }
    }

    private static void goods() {
        Due.sentence("good: of a GOOD: 0 to 5; BAD");
        HaulWages x = Due.bay("crate 9 8;feather 9 8;");
        Edge.bounds("good(_, 0)", g -> x.good(g, 0), 0, 3, 1, 2);
        Edge.bounds("good(0, _)", what -> x.good(0, what), 0, 3, 5, 16);
        Edge.bounds("good(1, _)", what -> x.good(1, what), 0, 2, 5, 6);
        Edge.bad("good(2, _)", what -> x.good(2, what), 0, -1);
        Due.due("good(2, 0)", x.good(2, 0), BAD);
        Due.due("good(-1, -1)", x.good(-1, -1), BAD);
    }

    private static void goodsAsTheyCome() {
        Due.sentence("good: there is no such GOOD, until it comes, and when it is gone");
        HaulWages x = new HaulWages();
        for (int g = 0; g < 8; g++) {
            Due.due("good(" + g + ", 1) ahead", x.good(g, 1), BAD);
            x.stock(0, g + 1, 0);
            Due.due("good(" + g + ", 1)", x.good(g, 1), g + 1);
        }
        Due.due("good(8, 1)", x.good(8, 1), BAD);
        Due.tell(x, "plain 5 5;");
        Due.due("good(0, 1)", x.good(0, 1), 5);
        Due.due("good(1, 1)", x.good(1, 1), BAD);
    }

    private static void ones() {
        Due.sentence("one: of a ONE: 0 to 3; BAD");
        HaulWages x = Due.bay("plain 3 5;one 5;one 6;one 7;one 8;hooter 1;");
        Edge.bounds("one(_, 0)", p -> x.one(p, 0), 0, 5, 3, 8);
        Edge.bounds("one(0, _)", what -> x.one(0, what), 0, 5, 3, 3);
        Edge.bounds("one(3, _)", what -> x.one(3, what), 0, 8, 3, 0);
        Edge.bad("one(4, _)", what -> x.one(4, what), 0, 3);
        for (int what = 0; what <= 3; what++) {
            Due.due("one(4, " + what + ")", x.one(4, what), BAD);
            Due.due("one(-1, " + what + ")", x.one(-1, what), BAD);
        }
        HaulWages all = Due.bay(CROWD);
        Due.due("two each", all.one(3, 2), 8 + 128);
        all = Due.bay("plain1 1;".repeat(8) + "one20;hooter6;");
        Due.due("six rounds, six of them", all.one(0, 2), 63);
        Due.due("their HEFT", all.one(0, 3), 6);
    }
}
