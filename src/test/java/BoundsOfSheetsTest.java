/** The bounds that promises 36 to 42 name: keep, back, sheet, lay, read, torn, count. */
public final class BoundsOfSheetsTest {
    private static final int BAD = HaulWages.BAD, STATE = HaulWages.STATE, NONE = HaulWages.NONE;
    private static final int NULL_ANSWER = -11, INDEX_ANSWER = -12, SIZE_ANSWER = -14;
    private static final int NO_FAULT = 0, NULL = 1, INDEX = 2, CAST = 3;

    public static void main(String[] args) {
        keepWhich();
        keepThereWasOne();
        keepNothingAndAll();
        backWhich();
        backToNone();
        backToTheLastWeek();
        sheetWhich();
        sheetLanes();
        sheetCells();
        sheetSize();
        sheetIsBadAheadOfSize();
        sheetIsNew();
        layWhich();
        layInNothing();
        layIndex();
        layInNoCells();
        layLowestBits();
        layWithASign();
        readWhich();
        readLanes();
        readHowMany();
        readFromCell();
        readNull();
        readCast();
        readIndex();
        readNone();
        readWholeOnes();
        readWhatStockRefuses();
        readWhatIsFull();
        readTheFirstMet();
        tornOfTheLatest();
        tornIsLeft();
        countWhat();
        countAtTheirMost();
        countOfNothing();
        Due.finish();
    }

    private static void keepWhich() {
        Due.sentence("keep: IMAGE k (0, 1); BAD");
        HaulWages x = Due.bay("one 5;");
        Edge.bounds("keep(_)", x::keep, 0, 0, 1, 0);
        Due.due("IMAGES", x.count(1), 2);
    }

    private static void keepThereWasOne() {
        Due.sentence("keep: whether there was one (1, 0)");
        HaulWages x = Due.bay("one 5;");
        Due.due("keep(1)", x.keep(1), 0);
        Due.due("keep(1) again", x.keep(1), 1);
        Due.due("keep(0)", x.keep(0), 0);
        Due.due("keep(0) again", x.keep(0), 1);
        x.back(0);
        Due.due("keep(0) behind back(0)", x.keep(0), 1);
    }

    private static void keepNothingAndAll() {
        Due.sentence("keep: GOODS (all of them), PEOPLE: none of them, as many as there may be");
        HaulWages x = new HaulWages();
        x.keep(0);
        x.stock(0, 1, 1);
        Due.due("back(0) to nothing", x.back(0), 0);
        Due.due("GOODS", x.rule(0), 0);
        x = Due.bay("one 1;one 2;one 3;one 4;hooter 6;brings 0;");
        x.keep(1);
        for (int g = 0; g < 8; g++) {
            x.stock(3, 9, g + 1);
        }
        x.hide(7);
        x.keep(0);
        x.set(0, 0);
        x.set(1, 8);
        for (int p = 0; p < 4; p++) {
            x.train(p, 0, 20);
            x.train(p, 1, 999);
        }
        x.weeks(1);
        Due.due("back(1)", x.back(1), 0);
        int[] rules = {0, 4, 0, 6, 0, 0, 0};
        for (int what = 0; what < rules.length; what++) {
            Due.due("rule(" + what + ") of IMAGE 1", x.rule(what), rules[what]);
        }
        Due.due("there is no GOOD 0", x.good(0, 0), BAD);
        Due.due("back(0)", x.back(0), 0);
        rules = new int[] {8, 4, 0, 6, 0, 127, 0};
        for (int what = 0; what < rules.length; what++) {
            Due.due("rule(" + what + ") of IMAGE 0", x.rule(what), rules[what]);
        }
        Due.due("WORTH of the last", x.good(7, 2), 8);
        Due.due("STRENGTH of the last", x.one(3, 0), 4);
    }

    private static void backWhich() {
        Due.sentence("back: all is as IMAGE k: WEEK; BAD");
        HaulWages x = Due.bay("one 5;");
        x.weeks(3);
        x.keep(0);
        x.weeks(4);
        x.keep(1);
        Edge.bounds("back(_)", x::back, 0, 3, 1, 7);
        HaulWages none = new HaulWages();
        Edge.bounds("back(_), BAD ahead of STATE", none::back, 0, STATE, 1, STATE);
    }

    private static void backToNone() {
        Due.sentence("back: STATE: there is none");
        HaulWages x = Due.bay("one 5;");
        x.see(0, 0, 7);
        Due.due("back(0)", x.back(0), STATE);
        Due.due("back(1)", x.back(1), STATE);
        x.keep(1);
        Due.due("back(0), another is kept", x.back(0), STATE);
        Due.due("back(1)", x.back(1), 0);
        Due.due("SEEN is no part of an IMAGE", x.count(0), 1);
        Due.tell(x, "one 5;");
        Due.due("back(1) behind a text", x.back(1), STATE);
    }

    private static void backToTheLastWeek() {
        Due.sentence("back: WEEK, the last that there is");
        HaulWages x = Due.bay("one 5;");
        x.keep(0);
        Edge.toLastWeek(x);
        x.keep(1);
        Due.due("back(0)", x.back(0), 0);
        Due.due("weeks(1)", x.weeks(1), 0);
        Due.due("back(1)", x.back(1), 999);
        Due.due("weeks(1)", x.weeks(1), HaulWages.FULL);
    }

    private static void sheetWhich() {
        Due.sentence("sheet: SHEETS 0 to 3: 1; BAD");
        HaulWages x = new HaulWages();
        Edge.bounds("sheet(_, 0, 5)", k -> x.sheet(k, 0, 5), 0, 1, 3, 1);
        Due.due("SHEET 0", x.lay(0, 4, 1), 1);
        Due.due("SHEET 1", x.lay(1, 4, 1), NULL_ANSWER);
        Due.due("SHEET 2", x.lay(2, 4, 1), NULL_ANSWER);
        Due.due("SHEET 3", x.lay(3, 4, 1), 1);
    }

    private static void sheetLanes() {
        Due.sentence("sheet: BYTES (lane 0), SHORTS (1), INTS (2); BAD");
        HaulWages x = new HaulWages();
        Edge.bounds("sheet(0, _, 5)", lane -> x.sheet(0, lane, 5), 0, 1, 2, 1);
        Edge.layRow(x, 0, 0, 1, 1);
        Due.due("it is of INTS", x.read(0, 2, 0, 1), 1);
    }

    private static void sheetCells() {
        Due.sentence("sheet: 0 to 40 CELLS; BAD: also n above 40");
        for (int lane = 0; lane < 3; lane++) {
            HaulWages x = new HaulWages();
            int of = lane;
            Due.due("sheet(0, lane, 41)", x.sheet(0, lane, 41), BAD);
            Due.due("sheet(0, lane, MAX)", x.sheet(0, lane, Integer.MAX_VALUE), BAD);
            Due.due("it has nothing yet", x.count(3), NONE);
            Due.due("sheet(0, lane, 40)", x.sheet(0, lane, 40), 1);
            Due.due("CELLS", x.count(3), 40);
            Edge.Call laying = i -> x.lay(0, i, 1);
            Due.due("the last CELL", laying.with(39), 1);
            Due.due("one more", laying.with(40), INDEX_ANSWER);
            Due.due("sheet(0, lane, 0)", x.sheet(0, of, 0), 1);
            Due.due("CELLS", x.count(3), 0);
            Due.due("sheet(0, lane, 41)", x.sheet(0, of, 41), BAD);
            Due.due("CELLS stay", x.count(3), 0);
        }
    }

    private static void sheetSize() {
        Due.sentence("sheet: -14 (SIZE): n below 0");
        HaulWages x = new HaulWages();
        Due.due("sheet(0, 0, -1)", x.sheet(0, 0, -1), SIZE_ANSWER);
        Due.due("sheet(0, 2, MIN)", x.sheet(0, 2, Integer.MIN_VALUE), SIZE_ANSWER);
        Due.due("it has nothing yet", x.count(3), NONE);
        x.sheet(0, 1, 5);
        Due.due("sheet(0, 0, -1)", x.sheet(0, 0, -1), SIZE_ANSWER);
        Due.due("CELLS stay", x.count(3), 5);
        Due.due("torn() is no matter of sheet()", x.torn(), NO_FAULT);
    }

    private static void sheetIsBadAheadOfSize() {
        Due.sentence("sheet: BAD; -14: the first that fits");
        HaulWages x = new HaulWages();
        Edge.bounds("sheet(_, 0, -1)", k -> x.sheet(k, 0, -1), 0, SIZE_ANSWER, 3, SIZE_ANSWER);
        Edge.bounds("sheet(0, _, -1)", lane -> x.sheet(0, lane, -1), 0, SIZE_ANSWER, 2, SIZE_ANSWER);
    }

    private static void sheetIsNew() {
        Due.sentence("sheet: a new row of CELLS 0");
        HaulWages x = new HaulWages();
        x.sheet(0, 2, 40);
        for (int i = 0; i < 40; i++) {
            x.lay(0, i, 1);
        }
        x.sheet(0, 2, 3);
        x.sheet(0, 2, 40);
        for (int i = 0; i + 3 <= 39; i += 3) {
            // A GOOD of WEIGHT 0 is refused; of WEIGHT 1 it comes, plain, of WORTH 0.
            Due.due("CELL " + (i + 1) + " is 0", x.read(0, 2, i, 1), -20);
            x.lay(0, i + 1, 1);
            x.keep(0);
            Due.due("with a WEIGHT from CELL " + i, x.read(0, 2, i, 1), 1);
            Due.due("KIND of it", x.good(0, 0), 0);
            Due.due("WORTH of it", x.good(0, 2), 0);
            Due.tell(x, "");
        }
        x.lay(0, 38, 1);
        Due.due("CELL 39 is 0", x.read(0, 2, 37, 1), 1);
        Due.due("CELL 39 is 0: WORTH", x.good(0, 2), 0);
    }

    private static void layWhich() {
        Due.sentence("lay: BAD: k");
        HaulWages x = new HaulWages();
        x.sheet(0, 0, 1);
        x.sheet(3, 2, 1);
        Edge.bounds("lay(_, 0, 5)", k -> x.lay(k, 0, 5), 0, 1, 3, 1);
        Edge.bad("lay(_, -1, 5), BAD ahead of INDEX", k -> x.lay(k, -1, 5), 0, 3);
    }

    private static void layInNothing() {
        Due.sentence("lay: -10 less the FAULT: NULL");
        HaulWages x = new HaulWages();
        for (int k = 0; k < 4; k++) {
            Due.due("lay(" + k + ", 0, 0)", x.lay(k, 0, 0), NULL_ANSWER);
            Due.due("lay(" + k + ", -1, 0), NULL ahead of INDEX", x.lay(k, -1, 0), NULL_ANSWER);
            Due.due("lay(" + k + ", 40, 0), NULL ahead of INDEX", x.lay(k, 40, 0), NULL_ANSWER);
        }
        Due.due("torn() is no matter of lay()", x.torn(), NO_FAULT);
    }

    private static void layIndex() {
        Due.sentence("lay: -10 less the FAULT: INDEX");
        int[] sizes = {1, 7, 40};
        for (int lane = 0; lane < 3; lane++) {
            for (int size : sizes) {
                HaulWages x = new HaulWages();
                x.sheet(1, lane, size);
                int[] outside = {-1, -2, Integer.MIN_VALUE, size, size + 1, 40, 41, Integer.MAX_VALUE};
                for (int i : outside) {
                    Due.due("lay(1, " + i + ", 1) of " + size, x.lay(1, i, 1), INDEX_ANSWER);
                }
                Due.due("lay(1, 0, 1)", x.lay(1, 0, 1), 1);
                Due.due("the last CELL", x.lay(1, size - 1, 1), 1);
            }
        }
    }

    private static void layInNoCells() {
        Due.sentence("lay: in a SHEET of 0 CELLS: INDEX");
        HaulWages x = new HaulWages();
        for (int lane = 0; lane < 3; lane++) {
            x.sheet(2, lane, 0);
            Due.due("lay(2, 0, 1)", x.lay(2, 0, 1), INDEX_ANSWER);
            Due.due("lay(2, -1, 1)", x.lay(2, -1, 1), INDEX_ANSWER);
        }
    }

    /** What is laid as a WORTH of that lane, as read() tells it: whether the GOOD comes, and of which WORTH. */
    private static int laidWorth(int lane, int v) {
        HaulWages x = new HaulWages();
        x.sheet(0, lane, 3);
        Edge.layRow(x, 0, 0, 1, v);
        return x.read(0, lane, 0, 1) == 1 ? x.good(0, 2) : BAD;
    }

    private static void layLowestBits() {
        Due.sentence("lay: CELL i of a SHEET becomes v (its lowest bits)");
        int[][] rows = {{0, 256, 0}, {0, 256 + 9, 9}, {0, -256 + 9, 9}, {0, 65536 + 5, 5}, {0, Integer.MIN_VALUE + 3, 3},
            {0, 255, BAD}, {0, 10, BAD}, {0, 127, BAD}, {1, 65536, 0}, {1, 65536 + 9, 9}, {1, -65536 + 9, 9}, {1, 256, BAD},
            {1, 256 + 9, BAD}, {1, 65535, BAD}, {1, Integer.MIN_VALUE + 3, 3}, {2, 65536, BAD}, {2, 256, BAD}, {2, 9, 9},
            {2, Integer.MIN_VALUE + 3, BAD}, {2, Integer.MAX_VALUE, BAD}};
        for (int[] row : rows) {
            Due.due("lane " + row[0] + ": " + row[1], laidWorth(row[0], row[1]), row[2]);
        }
    }

    private static void layWithASign() {
        Due.sentence("SHEETS: all with a sign");
        // The highest bit of a lane is a sign: such a CELL is no WORTH, nor would it be as a number without one.
        int[][] rows = {{0, -1}, {0, 128}, {0, 255}, {1, -1}, {1, 32768}, {1, 65535}, {2, -1}, {2, Integer.MIN_VALUE}};
        for (int[] row : rows) {
            Due.due("lane " + row[0] + ": " + row[1], laidWorth(row[0], row[1]), BAD);
        }
    }

    private static HaulWages withRow(int lane) {
        HaulWages x = new HaulWages();
        x.sheet(0, lane, 40);
        for (int i = 0; i < 13; i++) {
            x.lay(0, 3 * i, i % 4);
            x.lay(0, 3 * i + 1, 1 + i % 9);
            x.lay(0, 3 * i + 2, i % 10);
        }
        return x;
    }

    private static void readWhich() {
        Due.sentence("read: BAD: k");
        HaulWages x = withRow(1);
        x.sheet(3, 1, 3);
        Edge.layRow(x, 3, 0, 5, 5);
        Edge.bounds("read(_, 1, 0, 1)", k -> x.read(k, 1, 0, 1), 0, 1, 3, 1);
        Edge.bad("read(_, 1, -1, 0), BAD though n is 0", k -> x.read(k, 1, -1, 0), 0, 3);
        Due.due("GOODS", x.rule(0), 2);
    }

    private static void readLanes() {
        Due.sentence("read: BAD: lane");
        HaulWages x = withRow(0);
        x.sheet(1, 2, 3);
        Edge.layRow(x, 1, 0, 5, 5);
        Edge.bounds("read(0, _, 0, 1)", lane -> x.read(0, lane, 0, 1), 0, 1, 2, 0);
        Edge.bounds("read(1, _, 0, 1)", lane -> x.read(1, lane, 0, 1), 0, 0, 2, 1);
        Edge.bad("read(2, _, 0, 1), BAD ahead of NULL", lane -> x.read(2, lane, 0, 1), 0, 2);
        Edge.bad("read(0, _, 0, 0), BAD though n is 0", lane -> x.read(0, lane, 0, 0), 0, 2);
    }

    private static void readHowMany() {
        Due.sentence("read: n (0 to 13) GOODS; BAD: n");
        HaulWages x = withRow(2);
        Edge.bounds("read(0, 2, 0, _)", n -> x.read(0, 2, 0, n), 0, 0, 13, -28);
        Edge.bad("read(1, 0, 0, _), BAD ahead of NULL", n -> x.read(1, 0, 0, n), 0, 13);
        Due.due("eight", x.read(0, 2, 0, 8), 8);
        Due.due("GOODS", x.rule(0), 8);
        Due.due("13, of which 12 are the machine's", withRow(2).read(0, 2, 36, 13), 1);
        Due.due("14", withRow(2).read(0, 2, 36, 14), BAD);
    }

    private static void readFromCell() {
        Due.sentence("read: three CELLS each from CELL f on");
        HaulWages x = withRow(2);
        Due.due("from CELL 0", x.read(0, 2, 0, 1), 1);
        Due.due("from CELL 36", x.read(0, 2, 36, 1), 1);
        Due.due("the first", x.good(0, 0) * 100 + x.good(0, 1) * 10 + x.good(0, 2), 10);
        Due.due("the thirteenth", x.good(1, 0) * 100 + x.good(1, 1) * 10 + x.good(1, 2), 42);
        x.lay(0, 37, 1);
        x.lay(0, 38, 9);
        x.lay(0, 39, 7);
        Due.due("from CELL 37, the last three", x.read(0, 2, 37, 1), 1);
        Due.due("the last three", x.good(2, 0) * 100 + x.good(2, 1) * 10 + x.good(2, 2), 197);
        Due.due("from CELL 38, one too few", x.read(0, 2, 38, 1), 0);
        Due.due("torn()", x.torn(), INDEX);
    }

    private static void readNull() {
        Due.sentence("FAULT 1 NULL (nothing)");
        HaulWages x = new HaulWages();
        for (int k = 0; k < 4; k++) {
            for (int lane = 0; lane < 3; lane++) {
                x.read(0, 0, 0, 0);
                Due.due("read(" + k + ", " + lane + ", 0, 1)", x.read(k, lane, 0, 1), 0);
                Due.due("torn()", x.torn(), NULL);
            }
        }
        Due.due("read(0, 0, -1, 13), NULL ahead of INDEX", x.read(0, 0, -1, 13), 0);
        Due.due("torn()", x.torn(), NULL);
        Due.due("GOODS", x.rule(0), 0);
    }

    private static void readCast() {
        Due.sentence("FAULT 3 CAST (another lane)");
        for (int lane = 0; lane < 3; lane++) {
            HaulWages x = withRow(lane);
            for (int as = 0; as < 3; as++) {
                Due.due("lane " + lane + " as " + as, x.read(0, as, 0, 1), as == lane ? 1 : 0);
                Due.due("torn()", x.torn(), as == lane ? NO_FAULT : CAST);
            }
            Due.due("CAST ahead of INDEX", x.read(0, (lane + 1) % 3, -1, 1), 0);
            Due.due("torn()", x.torn(), CAST);
            x.sheet(0, lane, 0);
            Due.due("CAST of 0 CELLS", x.read(0, (lane + 2) % 3, 0, 1), 0);
            Due.due("torn()", x.torn(), CAST);
            Due.due("GOODS", x.rule(0), 1);
        }
    }

    private static void readIndex() {
        Due.sentence("FAULT 2 INDEX");
        HaulWages x = new HaulWages();
        x.sheet(0, 1, 5);
        Edge.layRow(x, 0, 3, 2, 1, 2, 1);
        int[] outside = {-1, -2, -3, -4, 3, 4, 5, 6, 40, Integer.MIN_VALUE, Integer.MIN_VALUE + 1, Integer.MAX_VALUE,
            Integer.MAX_VALUE - 1, Integer.MAX_VALUE - 2, Integer.MAX_VALUE - 38};
        for (int f : outside) {
            x.read(0, 1, 0, 0);
            Due.due("read(0, 1, " + f + ", 1)", x.read(0, 1, f, 1), 0);
            Due.due("torn()", x.torn(), INDEX);
            x.read(0, 1, 0, 0);
            Due.due("read(0, 1, " + f + ", 13)", x.read(0, 1, f, 13), 0);
            Due.due("torn()", x.torn(), INDEX);
        }
        Due.due("read(0, 1, 2, 1), the last that is whole", x.read(0, 1, 2, 1), 1);
        Due.due("torn()", x.torn(), NO_FAULT);
        for (int size = 0; size < 3; size++) {
            x.sheet(0, 1, size);
            Due.due("of " + size + " CELLS", x.read(0, 1, 0, 1), 0);
            Due.due("torn()", x.torn(), INDEX);
        }
    }

    private static void readNone() {
        Due.sentence("read: of n 0: 0, no FAULT, whatever the SHEET is");
        HaulWages x = withRow(0);
        x.sheet(1, 1, 0);
        int[][] rows = {{0, 0, 0}, {0, 1, 0}, {0, 0, -1}, {0, 0, 40}, {1, 1, 0}, {2, 0, 0}, {3, 2, Integer.MAX_VALUE},
            {0, 2, Integer.MIN_VALUE}};
        for (int[] row : rows) {
            x.read(2, 0, 0, 1);
            Due.due("torn() ahead", x.torn(), NULL);
            Due.due("read none", x.read(row[0], row[1], row[2], 0), 0);
            Due.due("torn()", x.torn(), NO_FAULT);
        }
        for (int g = 0; g < 8; g++) {
            x.stock(0, 1, 1);
        }
        Due.due("read none, where GOODS are FULL", x.read(0, 0, 0, 0), 0);
        Due.due("GOODS", x.rule(0), 8);
    }

    private static void readWholeOnes() {
        Due.sentence("read: what the machine refuses: those that were whole ahead came");
        for (int size = 0; size <= 10; size++) {
            HaulWages x = new HaulWages();
            x.sheet(0, 0, size);
            for (int i = 0; i < size; i++) {
                x.lay(0, i, 1 + i % 3);
            }
            Due.due("of " + size + " CELLS", x.read(0, 0, 0, 4), size / 3);
            Due.due("of " + size + " CELLS: torn()", x.torn(), INDEX);
            Due.due("of " + size + " CELLS: GOODS", x.rule(0), size / 3);
            Due.due("of " + size + " CELLS: in STORE", x.rule(5), (1 << size / 3) - 1);
        }
    }

    private static void readWhatStockRefuses() {
        Due.sentence("read: -20 less i (0 on): the i-th, whole, is refused by stock(): then none came");
        int[][] wrong = {{-1, 1, 1}, {4, 1, 1}, {0, 0, 1}, {0, 10, 1}, {0, 1, -1}, {0, 1, 10}};
        int[][] right = {{0, 1, 1}, {3, 1, 1}, {0, 1, 1}, {0, 9, 1}, {0, 1, 0}, {0, 1, 9}};
        for (int i = 0; i < 3; i++) {
            for (int j = 0; j < wrong.length; j++) {
                HaulWages x = Due.bay("plain 4 4;one 5;");
                x.sheet(0, 2, 9);
                Edge.layRow(x, 0, 1, 2, 3, 1, 2, 3, 1, 2, 3);
                for (int c = 0; c < 3; c++) {
                    x.lay(0, 3 * i + c, wrong[j][c]);
                }
                Due.due("the " + i + "-th is wrong", x.read(0, 2, 0, 3), -20 - i);
                Due.due("none came", x.rule(0), 1);
                Due.due("there is no GOOD 1", x.good(1, 0), BAD);
                Due.due("as many as are right come", x.read(0, 2, 0, i), i);
                for (int c = 0; c < 3; c++) {
                    x.lay(0, 3 * i + c, right[j][c]);
                }
                Due.due("it is right", x.read(0, 2, 0, 3), 3);
            }
        }
    }

    private static void readWhatIsFull() {
        Due.sentence("read: refused by stock() (in whichever way): FULL");
        for (int had = 0; had <= 8; had++) {
            HaulWages x = withRow(0);
            for (int g = 0; g < had; g++) {
                x.stock(0, 1, 1);
            }
            Due.due("as many as there is room for, and one", x.read(0, 0, 0, 9 - had), -20 - (8 - had));
            Due.due("none came", x.rule(0), had);
            Due.due("13 of them", x.read(0, 0, 0, 13), -20 - (8 - had));
            Due.due("as many as there is room for", x.read(0, 0, 0, 8 - had), 8 - had);
            Due.due("GOODS", x.rule(0), 8);
        }
    }

    private static void readTheFirstMet() {
        Due.sentence("read: the first met");
        HaulWages x = new HaulWages();
        x.sheet(0, 0, 8);
        Edge.layRow(x, 0, 0, 1, 1, 0, 0, 1, 9, 99);
        Due.due("the second is wrong, the third not whole", x.read(0, 0, 0, 3), -21);
        Due.due("GOODS", x.rule(0), 0);
        Due.due("not whole, however wrong it is", x.read(0, 0, 6, 1), 0);
        Due.due("torn()", x.torn(), INDEX);
        x.lay(0, 4, 1);
        Due.due("two came, the third is not whole", x.read(0, 0, 0, 3), 2);
        for (int g = 0; g < 6; g++) {
            x.stock(0, 1, 1);
        }
        Due.due("FULL ahead of one that is not whole", x.read(0, 0, 3, 2), -20);
        Due.due("not whole, where GOODS are FULL", x.read(0, 0, 6, 1), 0);
        Due.due("nothing, where GOODS are FULL", x.read(1, 0, 0, 1), 0);
        Due.due("torn()", x.torn(), NULL);
        Due.due("another lane, where GOODS are FULL", x.read(0, 1, 0, 1), 0);
        Due.due("torn()", x.torn(), CAST);
    }

    private static void tornOfTheLatest() {
        Due.sentence("torn: the FAULT of the latest read() that answered 0 or more; 0");
        HaulWages x = withRow(0);
        Due.due("no read()", x.torn(), NO_FAULT);
        x.read(1, 0, 0, 1);
        Due.due("NULL", x.torn(), NULL);
        x.read(0, 0, 38, 1);
        Due.due("INDEX", x.torn(), INDEX);
        x.read(0, 1, 0, 1);
        Due.due("CAST", x.torn(), CAST);
        x.read(0, 0, 36, 2);
        Due.due("INDEX, though one came", x.torn(), INDEX);
        x.read(0, 0, 0, 1);
        Due.due("all came", x.torn(), NO_FAULT);
        x.read(0, 1, 0, 1);
        x.text();
        Due.due("a text leaves it", x.torn(), CAST);
        x.sheet(0, 1, 3);
        Due.due("sheet() leaves it", x.torn(), CAST);
        x.lay(0, 40, 0);
        Due.due("lay() leaves it", x.torn(), CAST);
    }

    private static void tornIsLeft() {
        Due.sentence("torn: (one that is refused leaves it)");
        HaulWages x = withRow(0);
        x.lay(0, 1, 0);
        x.read(0, 1, 0, 1);
        int[][] refused = {{-1, 0, 0, 1}, {4, 0, 0, 1}, {0, -1, 0, 1}, {0, 3, 0, 1}, {0, 0, 0, -1}, {0, 0, 0, 14},
            {0, 0, 0, 1}, {0, 0, 3, 13}};
        for (int[] r : refused) {
            Due.due("refused", x.read(r[0], r[1], r[2], r[3]) < 0 ? 1 : 0, 1);
            Due.due("torn()", x.torn(), CAST);
        }
        x.read(0, 0, 3, 1);
        Due.due("refused, where there was no FAULT", x.read(0, 0, 0, 1), -20);
        Due.due("torn()", x.torn(), NO_FAULT);
    }

    private static void countWhat() {
        Due.sentence("count: 0 to 5; BAD");
        HaulWages x = Due.bay("one 5;one 6;");
        x.see(0, 0, 0);
        Edge.bounds("count(_)", x::count, 0, 1, 5, 11);
    }

    private static void countAtTheirMost() {
        Due.sentence("count: all there may be");
        HaulWages x = Due.bay("plain9 9;".repeat(8) + "one20;".repeat(4));
        for (int i = 0; i < 6; i++) {
            x.see(0, 0, 0);
        }
        x.keep(0);
        x.keep(1);
        Due.feedAll(x, " ".repeat(160));
        x.sheet(0, 0, 40);
        int[] most = {6, 2, 160, 40, 72, 80};
        for (int what = 0; what < most.length; what++) {
            Due.due("count(" + what + ")", x.count(what), most[what]);
        }
        Edge.hideAll(x);
        Due.due("WORTH of all, though TAKEN", x.count(4), 72);
    }

    private static void countOfNothing() {
        Due.sentence("count: CELLS of SHEET 0 (NONE: nothing)");
        HaulWages x = new HaulWages();
        int[] none = {0, 0, 0, NONE, 0, 0};
        for (int what = 0; what < none.length; what++) {
            Due.due("count(" + what + ")", x.count(what), none[what]);
        }
        x.sheet(1, 0, 5);
        x.sheet(3, 0, 5);
        Due.due("count(3) of other SHEETS", x.count(3), NONE);
        x.sheet(0, 0, 0);
        Due.due("count(3) of 0 CELLS", x.count(3), 0);
        x.sheet(0, 0, 1);
        Due.due("count(3) of 1 CELL", x.count(3), 1);
    }
}
