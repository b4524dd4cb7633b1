/** Promises 36 to 42: IMAGES, SHEETS, counts. */
public final class SheetTest {
    private static final int BAD = HaulWages.BAD, STATE = HaulWages.STATE, NONE = HaulWages.NONE;

    public static void main(String[] args) {
        images();
        sheets();
        laying();
        lanesCutBits();
        reading();
        readingWhatTheMachineRefuses();
        readingWhatStockRefuses();
        counting();
        Due.finish();
    }

    private static void images() {
        HaulWages x = Due.bay("plain 3 5;plain 2 4;one 5;hooter 2;brings 1;");
        Due.due("back(0)", x.back(0), STATE);
        Due.due("keep(-1)", x.keep(-1), BAD);
        Due.due("keep(2)", x.keep(2), BAD);
        Due.due("back(-1)", x.back(-1), BAD);
        Due.due("back(2)", x.back(2), BAD);
        x.weeks(1);
        Due.due("keep(0)", x.keep(0), 0);
        Due.due("back(1)", x.back(1), STATE);
        x.weeks(2);
        Due.due("keep(1)", x.keep(1), 0);
        Due.due("count(1)", x.count(1), 2);
        x.stock(3, 9, 9);
        x.alter(0, 0, 2);
        x.alter(0, 1, 8);
        x.alter(0, 2, 7);
        x.train(0, 0, 20);
        x.train(0, 1, 500);
        x.set(0, 6);
        x.set(1, 8);
        x.fill();
        x.see(1, 0, 1);
        Due.due("back(0)", x.back(0), 1);
        int[] rules = {2, 1, 1, 2, 1, 1, 9};
        for (int what = 0; what < rules.length; what++) {
            Due.due("rule(" + what + ") by back(0)", x.rule(what), rules[what]);
        }
        int[] first = {0, 3, 5, 0, 3, 5};
        for (int what = 0; what < first.length; what++) {
            Due.due("good(0, " + what + ") by back(0)", x.good(0, what), first[what]);
        }
        Due.due("the second is TAKEN", x.good(1, 3), 1);
        Due.due("STRENGTH", x.one(0, 0), 4);
        Due.due("WAGES", x.one(0, 1), 9);
        Due.due("SEEN stays", x.count(0), 1);
        Due.due("back(1)", x.back(1), 3);
        Due.due("WAGES of all", x.rule(6), 19);
        x.weeks(1);
        Due.due("the IMAGE stays: back(1)", x.back(1), 3);
        Due.due("keep(1) again", x.keep(1), 1);
        Due.due("count(1)", x.count(1), 2);
    }

    private static void sheets() {
        HaulWages x = new HaulWages();
        Due.due("sheet(0, 0, 0)", x.sheet(0, 0, 0), 1);
        Due.due("count(3)", x.count(3), 0);
        Due.due("sheet(0, 2, 40)", x.sheet(0, 2, 40), 1);
        Due.due("count(3)", x.count(3), 40);
        int[][] bad = {{-1, 0, 1}, {4, 0, 1}, {0, -1, 1}, {0, 3, 1}, {0, 0, 41}, {4, 0, -1}, {0, 3, -1}};
        for (int[] b : bad) {
            Due.due("sheet, BAD", x.sheet(b[0], b[1], b[2]), BAD);
        }
        Due.due("sheet(0, 0, -1)", x.sheet(0, 0, -1), -14);
        Due.due("sheet(0, 0, MIN)", x.sheet(0, 0, Integer.MIN_VALUE), -14);
        Due.due("refused: it stays", x.count(3), 40);
        Due.due("sheet(3, 1, 3)", x.sheet(3, 1, 3), 1);
        Due.due("lay(3, 1, 5)", x.lay(3, 1, 5), 1);
        Due.due("a new row", x.sheet(3, 1, 3), 1);
        Due.due("of CELLS 0: no WEIGHT", x.read(3, 1, 0, 1), -20);
        x.lay(3, 1, 5);
        Due.due("with a WEIGHT", x.read(3, 1, 0, 1), 1);
        layRow(x, 3, 0, 9, 9, 99);
        x.sheet(3, 1, 3);
        x.lay(3, 1, 1);
        Due.due("each CELL is 0", x.read(3, 1, 0, 1), 1);
    }

    private static void laying() {
        HaulWages x = new HaulWages();
        Due.due("lay(-1, 0, 0)", x.lay(-1, 0, 0), BAD);
        Due.due("lay(4, 0, 0)", x.lay(4, 0, 0), BAD);
        Due.due("lay, NULL", x.lay(2, 0, 0), -11);
        Due.due("lay, NULL ahead of INDEX", x.lay(2, -1, 0), -11);
        for (int lane = 0; lane < 3; lane++) {
            x.sheet(2, lane, 3);
            Due.due("lay(2, 2, 1)", x.lay(2, 2, 1), 1);
            Due.due("lay(2, 3, 1)", x.lay(2, 3, 1), -12);
            Due.due("lay(2, -1, 1)", x.lay(2, -1, 1), -12);
            Due.due("lay(2, MAX, 1)", x.lay(2, Integer.MAX_VALUE, 1), -12);
            Due.due("lay(2, MIN, 1)", x.lay(2, Integer.MIN_VALUE, 1), -12);
            x.sheet(2, lane, 0);
            Due.due("lay in no CELLS", x.lay(2, 0, 1), -12);
        }
    }

    private static void lanesCutBits() {
        int[] cut = {1 << 8, 1 << 16, 0};
        for (int lane = 0; lane < 3; lane++) {
            HaulWages x = new HaulWages();
            x.sheet(0, lane, 3);
            x.lay(0, 0, 3 + cut[lane]);
            x.lay(0, 1, 9 - cut[lane]);
            x.lay(0, 2, 8 + 5 * cut[lane]);
            Due.due("lane " + lane + ": the lowest bits", x.read(0, lane, 0, 1), 1);
            Due.due("lane " + lane + ": KIND", x.good(0, 0), 3);
            Due.due("lane " + lane + ": WEIGHT", x.good(0, 1), 9);
            Due.due("lane " + lane + ": WORTH", x.good(0, 2), 8);
            if (lane < 2) {
                // With a sign: the highest bit of a lane is below 0, what is cut is not.
                x.lay(0, 0, cut[lane] / 2);
                Due.due("lane " + lane + ": a sign", x.read(0, lane, 0, 1), -20);
                x.lay(0, 0, cut[lane]);
                Due.due("lane " + lane + ": 0", x.read(0, lane, 0, 1), 1);
            }
            x.lay(0, 0, lane == 0 ? 4 : cut[lane - 1]);
            Due.due("lane " + lane + ": bits that it has", x.read(0, lane, 0, 1), -20);
        }
    }

    private static void layRow(HaulWages x, int k, int from, int... cells) {
        for (int i = 0; i < cells.length; i++) {
            x.lay(k, from + i, cells[i]);
        }
    }

    private static void reading() {
        HaulWages x = Due.bay("plain 4 4;");
        x.sheet(1, 1, 9);
        layRow(x, 1, 0, 1, 2, 9, 2, 9, 3, 3, 1, 0);
        Due.due("read(1, 1, 3, 2)", x.read(1, 1, 3, 2), 2);
        Due.due("torn()", x.torn(), 0);
        Due.due("GOODS", x.rule(0), 3);
        Due.due("in STORE", x.rule(5), 7);
        int[][] goods = {{0, 4, 4}, {2, 9, 3}, {3, 1, 0}};
        for (int g = 0; g < 3; g++) {
            for (int what = 0; what < 3; what++) {
                Due.due("good(" + g + ", " + what + ")", x.good(g, what), goods[g][what]);
            }
        }
        Due.due("read from CELL 1: 2 9 2, 9 ..", x.read(1, 1, 1, 2), -21);
        int[][] bad = {{-1, 1, 0, 1}, {4, 1, 0, 1}, {1, -1, 0, 1}, {1, 3, 0, 1}, {1, 1, 0, -1}, {1, 1, 0, 14}};
        for (int[] b : bad) {
            Due.due("read, BAD", x.read(b[0], b[1], b[2], b[3]), BAD);
        }
        Due.due("GOODS", x.rule(0), 3);
    }

    private static void readingWhatTheMachineRefuses() {
        HaulWages x = new HaulWages();
        Due.due("read, NULL", x.read(0, 0, -1, 1), 0);
        Due.due("torn(): NULL ahead of INDEX", x.torn(), 1);
        x.sheet(0, 2, 8);
        layRow(x, 0, 0, 0, 1, 1, 1, 2, 2, 2, 3);
        Due.due("read, CAST", x.read(0, 1, -1, 1), 0);
        Due.due("torn(): CAST ahead of INDEX", x.torn(), 3);
        Due.due("read, BAD", x.read(0, 3, 0, 1), BAD);
        Due.due("torn(), one that is refused leaves it", x.torn(), 3);
        Due.due("two whole ones, then INDEX", x.read(0, 2, 0, 13), 2);
        Due.due("torn(): INDEX", x.torn(), 2);
        Due.due("they came", x.rule(0), 2);
        Due.due("read from the end on", x.read(0, 2, 8, 1), 0);
        Due.due("torn()", x.torn(), 2);
        Due.due("read from MAX on", x.read(0, 2, Integer.MAX_VALUE, 13), 0);
        Due.due("read from MAX - 1 on", x.read(0, 2, Integer.MAX_VALUE - 1, 1), 0);
        Due.due("read from MIN on", x.read(0, 2, Integer.MIN_VALUE, 13), 0);
        Due.due("read from -1 on", x.read(0, 2, -1, 1), 0);
        Due.due("read from -3 on", x.read(0, 2, -3, 2), 0);
        Due.due("torn()", x.torn(), 2);
        Due.due("read none", x.read(0, 2, -1, 0), 0);
        Due.due("torn() of none", x.torn(), 0);
        x.read(0, 1, 0, 1);
        Due.due("read none of nothing", x.read(3, 1, 0, 0), 0);
        Due.due("torn() of none of nothing", x.torn(), 0);
        x.read(0, 1, 0, 1);
        Due.due("read none of another lane", x.read(0, 0, 0, 0), 0);
        Due.due("torn() of none of another lane", x.torn(), 0);
        // One that is not whole is the machine's, however wrong its first CELLS are.
        layRow(x, 0, 6, 99, 99);
        Due.due("not whole", x.read(0, 2, 6, 1), 0);
        Due.due("torn()", x.torn(), 2);
        x.read(0, 2, 0, 1);
        Due.due("torn() of a whole one", x.torn(), 0);
    }

    private static void readingWhatStockRefuses() {
        HaulWages x = Due.bay("plain 1 1;".repeat(6));
        x.sheet(0, 0, 40);
        for (int i = 0; i < 13; i++) {
            layRow(x, 0, 3 * i, 3, 2, i % 9);
        }
        Due.due("two came", x.read(0, 0, 0, 2), 2);
        x.keep(0);
        Due.due("FULL at once", x.read(0, 0, 0, 13), -20);
        x = Due.bay("plain 1 1;".repeat(5) + "one 1;");
        x.sheet(0, 0, 39);
        x.read(0, 1, 0, 1);
        for (int i = 0; i < 13; i++) {
            layRow(x, 0, 3 * i, 3, 2, i % 9);
        }
        Due.due("FULL at the fourth: none came", x.read(0, 0, 0, 4), -23);
        Due.due("GOODS", x.rule(0), 5);
        Due.due("in STORE", x.rule(5), 31);
        Due.due("torn() is left", x.torn(), 3);
        layRow(x, 0, 3, 3, 0, 1);
        Due.due("the second has no WEIGHT: none came", x.read(0, 0, 0, 3), -21);
        Due.due("GOODS", x.rule(0), 5);
        layRow(x, 0, 3, 3, 1, 10);
        Due.due("the second has too much WORTH", x.read(0, 0, 0, 3), -21);
        layRow(x, 0, 3, -1, 1, 1);
        Due.due("the second has no KIND", x.read(0, 0, 0, 3), -21);
        Due.due("three others", x.read(0, 0, 30, 3), 3);
        Due.due("GOODS", x.rule(0), 8);
        Due.due("refused ahead of what the machine refuses", x.read(0, 0, 36, 2), -20);
        x = new HaulWages();
        x.sheet(0, 0, 39);
        for (int i = 0; i < 13; i++) {
            layRow(x, 0, 3 * i, 0, 1, 1);
        }
        Due.due("the ninth", x.read(0, 0, 0, 13), -28);
        Due.due("the machine refuses the third first", x.read(0, 0, 33, 13), 2);
    }

    private static void counting() {
        HaulWages x = Due.bay("plain 3 5;crate 2 4;feather 1 9;one 5;one 20;");
        Due.feedAll(x, "abc");
        x.hide(0);
        x.see(1, 1, 1);
        x.see(1, 1, 1);
        x.keep(1);
        x.sheet(1, 0, 7);
        int[] want = {2, 1, 3, NONE, 18, 25};
        for (int what = 0; what < want.length; what++) {
            Due.due("count(" + what + ")", x.count(what), want[what]);
        }
        x.sheet(0, 0, 7);
        Due.due("count(3)", x.count(3), 7);
        Due.due("count(-1)", x.count(-1), BAD);
        Due.due("count(6)", x.count(6), BAD);
    }
}
