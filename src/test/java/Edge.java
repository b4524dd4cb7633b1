/** What the tests of bounds share: the last values that are taken, the first that are refused, on both sides. */
final class Edge {
    private static final int LOWEST = Integer.MIN_VALUE, HIGHEST = Integer.MAX_VALUE;

    private Edge() {
    }

    interface Call {
        long with(int v);
    }

    /** A call whose number _ is BAD below least and above most. */
    static void bad(String call, Call made, int least, int most) {
        int[] outside = {least - 1, most + 1, least - 100, most + 100, LOWEST, HIGHEST};
        for (int v : outside) {
            Due.due(call.replace("_", "" + v), made.with(v), HaulWages.BAD);
        }
    }

    /** The first and the last number that is taken, each with its answer; what is beyond them is BAD. */
    static void bounds(String call, Call made, int least, long atLeast, int most, long atMost) {
        bad(call, made, least, most);
        Due.due(call.replace("_", "" + least), made.with(least), atLeast);
        Due.due(call.replace("_", "" + most), made.with(most), atMost);
        bad(call, made, least, most);
    }

    /** A text that is told to a new object: lines of it, no FAULT. */
    static void taken(String text, int lines) {
        HaulWages x = new HaulWages();
        Due.due("text() of '" + text + "'", Due.tell(x, text), lines);
        Due.due("fault() of '" + text + "'", x.fault(), 0);
    }

    /** A text that is told to a new object: its FAULT, the place of it. */
    static void refused(String text, int place, int fault) {
        HaulWages x = new HaulWages();
        Due.due("text() of '" + text + "'", Due.tell(x, text), -10 - place);
        Due.due("fault() of '" + text + "'", x.fault(), fault);
    }

    static void layRow(HaulWages x, int k, int... cells) {
        for (int i = 0; i < cells.length; i++) {
            x.lay(k, i, cells[i]);
        }
    }

    static void hideAll(HaulWages x) {
        for (int g = 0; g < x.rule(0); g++) {
            x.hide(g);
        }
    }

    /** WEEK becomes 999, the last that there is. */
    static void toLastWeek(HaulWages x) {
        while (x.rule(2) < 990) {
            x.weeks(Math.min(30, 990 - x.rule(2)));
        }
        x.weeks(9);
    }
}
