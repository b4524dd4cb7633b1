/** "An object is used for at most 512 calls after it has been made": the last of them answers as the first. */
public final class LastCallTest {
    private static final int CALLS = 512;
    private static final String CROWD = "plain1 1;awkward2 3;feather9 9;crate1 5;plain2 2;plain3 3;plain4 1;feather1 7;"
        + "one20;one19;one18;one7;hooter6;brings8;";

    interface Call {
        long on(HaulWages x);
    }

    public static void main(String[] args) {
        Due.sentence("An object is used for at most 512 calls after it has been made");
        everyCallLast();
        feedsAlone();
        imagesAlone();
        weeksAlone();
        dearestAlone();
        Due.finish();
    }

    /** Told in some hundred calls, then asked the same until the 512th. */
    private static void sameToTheLast(String name, Call call) {
        HaulWages x = Due.bay(CROWD);
        x.see(20, 3, x.ahead(3, 20, 0));
        int made = CROWD.length() + 3;
        long first = call.on(x);
        for (made++; made < CALLS - 1; made++) {
            call.on(x);
        }
        Due.due(name + ", the 512th call", call.on(x), first);
    }

    private static void everyCallLast() {
        sameToTheLast("rule(5)", x -> x.rule(5));
        sameToTheLast("good(7, 4)", x -> x.good(7, 4));
        sameToTheLast("one(3, 2)", x -> x.one(3, 2));
        sameToTheLast("fill()", HaulWages::fill);
        sameToTheLast("runs(60, 0)", x -> x.runs(60, 0));
        sameToTheLast("ahead(3, 60, 0)", x -> x.ahead(3, 60, 0));
        sameToTheLast("gone(6)", x -> x.gone(6));
        sameToTheLast("rich(0, 999)", x -> x.rich(0, 999));
        sameToTheLast("arms(0, 0)", x -> x.arms(0, 0));
        sameToTheLast("need(3, 1)", x -> x.need(3, 1));
        sameToTheLast("fair(60, 1)", x -> x.fair(60, 1));
        sameToTheLast("swap(60, 1)", x -> x.swap(60, 1));
        sameToTheLast("lose(60, 1)", x -> x.lose(60, 1));
        sameToTheLast("price(7)", x -> x.price(7));
        sameToTheLast("kind(7, 60, 1)", x -> x.kind(7, 60, 1));
        sameToTheLast("luck(3, 7, 0)", x -> x.luck(3, 7, 0));
        sameToTheLast("kinds(0)", x -> x.kinds(0));
        sameToTheLast("weights(0)", x -> x.weights(0));
        sameToTheLast("drift(-9, 60, 0)", x -> x.drift(-9, 60, 0));
    }

    private static void feedsAlone() {
        HaulWages x = new HaulWages();
        for (int i = 1; i < CALLS; i++) {
            Due.due("feed, call " + i, x.feed(' '), i <= 160 ? i : HaulWages.FULL);
        }
        Due.due("text(), the 512th call", x.text(), 0);
    }

    private static void imagesAlone() {
        HaulWages x = new HaulWages();
        x.stock(0, 1, 1);
        x.keep(0);
        for (int i = 3; i + 3 < CALLS; i += 3) {
            Due.due("stock, call " + i, x.stock(1, 2, 3), 2);
            Due.due("sheet", x.sheet(i % 4, i % 3, i % 41), 1);
            Due.due("back", x.back(0), 0);
        }
        Due.due("rule(0), the 510th call", x.rule(0), 1);
        Due.due("keep(1), the 511th call", x.keep(1), 0);
        Due.due("count(1), the 512th call", x.count(1), 2);
    }

    private static void weeksAlone() {
        HaulWages x = new HaulWages();
        int week = 0;
        for (int i = 1; i < CALLS; i++) {
            boolean fits = week + 30 <= 999;
            Due.due("weeks(30), call " + i, x.weeks(30), fits ? 0 : HaulWages.FULL);
            week += fits ? 30 : 0;
        }
        Due.due("rule(2), the 512th call", x.rule(2), 990);
    }

    private static void dearestAlone() {
        sameToTheLast("mean(3, 2, 0)", x -> x.mean(3, 2, 0));
        sameToTheLast("ask(0, 0)", x -> x.ask(0, 0));
        sameToTheLast("strengths(0)", x -> x.strengths(0));
    }
}
