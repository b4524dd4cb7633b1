/** Promises 27 and 28: illness by odds. */
public final class IllnessTest {
    private static final int BAD = HaulWages.BAD;
    private static final String TWO = "plain 1 5;plain 1 3;one 1;one 1;hooter 1;";

    public static void main(String[] args) {
        lucks();
        means();
        nobody();
        fourOnes();
        Due.finish();
    }

    private static void fraction(String call, long top, long bottom, long wantTop, long wantBottom) {
        Due.due(call + ", numerator", top, wantTop);
        Due.due(call + ", denominator", bottom, wantBottom);
    }

    private static void luckIs(HaulWages x, int v, int g, long top, long bottom) {
        fraction("luck(" + v + ", " + g + ")", x.luck(v, g, 0), x.luck(v, g, 1), top, bottom);
    }

    private static void meanIs(HaulWages x, int v, int n, long top, long bottom) {
        fraction("mean(" + v + ", " + n + ")", x.mean(v, n, 0), x.mean(v, n, 1), top, bottom);
    }

    private static void lucks() {
        HaulWages x = Due.bay(TWO);
        luckIs(x, 3, 0, 91, 100);
        luckIs(x, 3, 1, 49, 100);
        luckIs(x, 5, 0, 3, 4);
        luckIs(x, 5, 1, 1, 4);
        luckIs(x, 0, 1, 1, 1);
        luckIs(x, 10, 0, 0, 1);
        x.hide(0);
        luckIs(x, 5, 0, 0, 1);
        luckIs(x, 5, 1, 3, 4);
        Due.due("luck(-1, 0, 0)", x.luck(-1, 0, 0), BAD);
        Due.due("luck(11, 0, 0)", x.luck(11, 0, 0), BAD);
        Due.due("luck(1, 2, 0)", x.luck(1, 2, 0), BAD);
        Due.due("luck(1, -1, 0)", x.luck(1, -1, 0), BAD);
        Due.due("luck(1, 0, 2)", x.luck(1, 0, 2), BAD);
        Due.due("luck(1, 0, -1)", x.luck(1, 0, -1), BAD);
        Due.due("it is asked alone", x.rule(5), 2);
    }

    private static void means() {
        HaulWages x = Due.bay(TWO);
        meanIs(x, 5, 0, 0, 1);
        meanIs(x, 5, 1, 9, 2);
        meanIs(x, 3, 1, 301, 50);
        meanIs(x, 0, 1, 8, 1);
        meanIs(x, 10, 2, 0, 1);
        meanIs(x, 5, 2, 9, 1);
        x.set(1, 0);
        meanIs(x, 5, 2, 27, 4);
        meanIs(x, 0, 2, 8, 1);
        x.train(0, 1, 999);
        // The first has 999: what he takes is lost.
        meanIs(x, 0, 1, 3, 1);
        meanIs(x, 5, 1, 2, 1);
        Due.due("mean(-1, 1, 0)", x.mean(-1, 1, 0), BAD);
        Due.due("mean(11, 1, 0)", x.mean(11, 1, 0), BAD);
        Due.due("mean(1, -1, 0)", x.mean(1, -1, 0), BAD);
        Due.due("mean(1, 3, 0)", x.mean(1, 3, 0), BAD);
        Due.due("mean(1, 1, 2)", x.mean(1, 1, 2), BAD);
        Due.due("mean(1, 1, -1)", x.mean(1, 1, -1), BAD);
        Due.due("WEEK", x.rule(2), 0);
        Due.due("WAGES", x.rule(6), 999);
    }

    private static void nobody() {
        HaulWages x = Due.bay("plain 1 5;");
        luckIs(x, 5, 0, 0, 1);
        meanIs(x, 5, 2, 0, 1);
    }

    private static void fourOnes() {
        HaulWages x = Due.bay("plain 1 1;one 9;one 9;one 9;one 9;brings 8;");
        // Taken unless all four are ill.
        luckIs(x, 1, 0, 9999, 10000);
        luckIs(x, 9, 0, 3439, 10000);
        meanIs(x, 9, 1, 3439, 10000);
        meanIs(x, 9, 2, 3439, 5000);
        x.set(1, 0);
        // It is never brought back: 1 less that all eight times somebody is ill.
        meanIs(x, 9, 2, 56953279, 100000000);
    }
}
