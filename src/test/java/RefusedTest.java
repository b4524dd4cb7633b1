import java.util.ArrayList;
import java.util.List;

/** What is refused changes nothing, and what is only asked changes nothing: seen by all that an object can tell. */
public final class RefusedTest {
    private static final int BAD = HaulWages.BAD, STATE = HaulWages.STATE, FULL = HaulWages.FULL, NONE = HaulWages.NONE;
    private static final int LOW = Integer.MIN_VALUE, HIGH = Integer.MAX_VALUE;
    // The last of the views tells fault() and torn() alone.
    private static final int VIEWS = 6, FAULTS_VIEW = 5;

    interface Recipe {
        HaulWages make();
    }

    interface Call {
        long on(HaulWages x);
    }

    /** A call with one number left open. */
    interface Placed {
        long on(HaulWages x, int v);
    }

    private final Recipe recipe;
    private final List<List<Long>> before = new ArrayList<>();

    private RefusedTest(Recipe recipe) {
        this.recipe = recipe;
        for (int view = 0; view < VIEWS; view++) {
            before.add(look(recipe.make(), view));
        }
    }

    public static void main(String[] args) {
        textRefuses();
        changesRefuse();
        weeksRefuse();
        bestRefuse();
        illnessRefuses();
        seenRefuse();
        imagesRefuse();
        sheetsRefuse();
        readRefusesByStock();
        readThatIsTorn();
        fullTapeRefuses();
        lastWeekRefuses();
        newObjectRefuses();
        textsWithAFault();
        questions();
        Due.finish();
    }

    /** All is there, much of it full: GOODS, SEEN, IMAGE 0, SHEETS 0, 2 and 3, bytes on THE TAPE, a FAULT, a torn read. */
    private static HaulWages busy() {
        HaulWages x = Due.bay("plain 3 5;awkward 2 4;feather 5 9;crate 2 3;plain 1 1;plain 2 2;plain 9 9;"
            + "one 7;one 5;one 20;one 1;hooter 3;brings 2;");
        x.weeks(2);
        x.keep(0);
        x.stock(3, 1, 4);
        x.weeks(1);
        for (int i = 0; i < 6; i++) {
            x.see(i * 4, i % 4, x.ahead(i % 4, i * 4, 0));
        }
        x.sheet(0, 0, 6);
        Edge.layRow(x, 0, 1, 2, 3, 2, 3, 4);
        x.sheet(2, 1, 0);
        x.sheet(3, 2, 7);
        Edge.layRow(x, 3, 3, 4, 5, 0, 6, 7, 3);
        x.read(0, 1, 0, 1);
        Due.tell(x, "one 0;");
        Due.feedAll(x, "one 9;");
        return x;
    }

    private static List<Long> look(HaulWages x, int view) {
        List<Long> told = new ArrayList<>();
        switch (view) {
            case 0 -> lookAtAll(x, told);
            case 1 -> lookAtSeen(x, told);
            case 2 -> lookAtImages(x, told);
            case 3 -> lookAtSheets(x, told);
            case 4 -> lookAtTape(x, told);
            default -> told.addAll(List.of((long) x.fault(), (long) x.torn()));
        }
        return told;
    }

    private static void lookAtAll(HaulWages x, List<Long> told) {
        for (int what = 0; what < 7; what++) {
            told.add((long) x.rule(what));
        }
        for (int g = 0; g < 8; g++) {
            for (int what = 0; what < 6; what++) {
                told.add((long) x.good(g, what));
            }
        }
        for (int p = 0; p < 4; p++) {
            for (int what = 0; what < 4; what++) {
                told.add((long) x.one(p, what));
            }
        }
        for (int what = 0; what < 6; what++) {
            told.add((long) x.count(what));
        }
    }

    private static void lookAtSeen(HaulWages x, List<Long> told) {
        for (int n = x.count(0); n >= 0; n--) {
            told.add((long) x.forget(n));
            for (int g = 0; g < x.rule(0); g++) {
                told.add((long) x.kinds(g) * 10000 + x.weights(g));
            }
            for (int p = 0; p < x.rule(1); p++) {
                told.add((long) x.strengths(p));
                told.add((long) x.ask(p, 0));
            }
        }
    }

    private static void lookAtImages(HaulWages x, List<Long> told) {
        for (int k = 0; k < 2; k++) {
            told.add((long) x.back(k));
            lookAtAll(x, told);
        }
    }

    /** A GOOD is read from each of three places of each SHEET, as of each lane, if there is room for it. */
    private static void lookAtSheets(HaulWages x, List<Long> told) {
        x.back(0);
        x.keep(1);
        int g = x.rule(0);
        for (int k = 0; k < 4; k++) {
            for (int lane = 0; lane < 3; lane++) {
                for (int f : new int[] {0, 3, 4}) {
                    told.add((long) x.read(k, lane, f, 1));
                    told.add((long) x.torn());
                    told.add(x.good(g, 0) * 100L + x.good(g, 1) * 10 + x.good(g, 2));
                    x.back(1);
                }
            }
        }
    }

    private static void lookAtTape(HaulWages x, List<Long> told) {
        told.add((long) x.end(x.count(2)));
        told.add((long) x.text());
        told.add((long) x.fault());
        lookAtAll(x, told);
    }

    /** The call answers so, and all views but the last ones are as they were. */
    private void changesNothing(String name, Call call, long want, int views) {
        for (int view = 0; view < views; view++) {
            HaulWages x = recipe.make();
            Due.due(name, call.on(x), want);
            List<Long> after = look(x, view);
            Due.due(name + " changed what view " + view + " tells: " + before.get(view) + " to " + after,
                after.equals(before.get(view)) ? 0 : 1, 0);
        }
    }

    private void refused(String name, Call call, long want) {
        changesNothing(name, call, want, VIEWS);
    }

    private void bad(String name, int least, int most, Placed call) {
        int[] outside = {least - 1, most + 1, LOW, HIGH};
        for (int v : outside) {
            refused(name.replace("_", "" + v), x -> call.on(x, v), BAD);
        }
    }

    private static RefusedTest ofBusy(String sentence) {
        Due.sentence(sentence);
        return new RefusedTest(RefusedTest::busy);
    }

    private static void textRefuses() {
        RefusedTest t = ofBusy("what is refused changes nothing: feed, end, rule, good, one");
        t.bad("feed(_)", 0, 127, HaulWages::feed);
        t.bad("end(_)", 0, 6, HaulWages::end);
        t.bad("rule(_)", 0, 6, HaulWages::rule);
        t.bad("good(_, 0)", 0, 7, (x, v) -> x.good(v, 0));
        t.bad("good(0, _)", 0, 5, (x, v) -> x.good(0, v));
        t.bad("one(_, 2)", 0, 3, (x, v) -> x.one(v, 2));
        t.bad("one(0, _)", 0, 3, (x, v) -> x.one(0, v));
    }

    private static void changesRefuse() {
        RefusedTest t = ofBusy("what is refused changes nothing: alter, train, set, stock, hide");
        t.bad("alter(_, 0, 1)", 0, 7, (x, v) -> x.alter(v, 0, 1));
        t.bad("alter(0, _, 1)", 0, 2, (x, v) -> x.alter(0, v, 1));
        t.bad("alter(0, 0, _)", 0, 3, (x, v) -> x.alter(0, 0, v));
        t.bad("alter(0, 1, _)", 1, 9, (x, v) -> x.alter(0, 1, v));
        t.bad("alter(0, 2, _)", 0, 9, (x, v) -> x.alter(0, 2, v));
        t.bad("train(_, 0, 1)", 0, 3, (x, v) -> x.train(v, 0, 1));
        t.bad("train(0, _, 1)", 0, 1, (x, v) -> x.train(0, v, 1));
        t.bad("train(0, 0, _)", 1, 20, (x, v) -> x.train(0, 0, v));
        t.bad("train(0, 1, _)", 0, 999, (x, v) -> x.train(0, 1, v));
        t.bad("set(_, 1)", 0, 1, (x, v) -> x.set(v, 1));
        t.bad("set(0, _)", 0, 6, (x, v) -> x.set(0, v));
        t.bad("set(1, _)", 0, 8, (x, v) -> x.set(1, v));
        t.bad("stock(_, 1, 1)", 0, 3, (x, v) -> x.stock(v, 1, 1));
        t.bad("stock(0, _, 1)", 1, 9, (x, v) -> x.stock(0, v, 1));
        t.bad("stock(0, 1, _)", 0, 9, (x, v) -> x.stock(0, 1, v));
        t.refused("stock(0, 1, 1)", x -> x.stock(0, 1, 1), FULL);
        t.bad("hide(_)", 0, 7, HaulWages::hide);
        int taken = 0;
        while (busy().good(taken, 3) == 0) {
            taken++;
        }
        int g = taken;
        t.refused("hide(" + g + ")", x -> x.hide(g), STATE);
    }

    private static void weeksRefuse() {
        RefusedTest t = ofBusy("what is refused changes nothing: weeks, runs, ahead, gone, rich");
        t.bad("weeks(_)", 0, 30, HaulWages::weeks);
        t.bad("runs(_, 0)", 0, 60, (x, v) -> x.runs(v, 0));
        t.bad("runs(5, _)", 0, 4, (x, v) -> x.runs(5, v));
        t.bad("ahead(_, 5, 0)", 0, 3, (x, v) -> x.ahead(v, 5, 0));
        t.bad("ahead(0, _, 0)", 0, 60, (x, v) -> x.ahead(0, v, 0));
        t.bad("ahead(0, 5, _)", 0, 1, (x, v) -> x.ahead(0, 5, v));
        t.bad("gone(_)", 0, 7, HaulWages::gone);
        t.bad("rich(_, 9)", 0, 3, (x, v) -> x.rich(v, 9));
        t.bad("rich(0, _)", 0, 999, (x, v) -> x.rich(0, v));
        t.refused("rich(3, 999)", x -> x.rich(3, 999), NONE);
    }

    private static void bestRefuse() {
        RefusedTest t = ofBusy("what is refused changes nothing: arms, need, fair, swap, lose, price, kind");
        t.bad("arms(_, 0)", 0, 3, (x, v) -> x.arms(v, 0));
        t.bad("arms(0, _)", 0, 2, (x, v) -> x.arms(0, v));
        t.bad("need(_, 0)", 0, 3, (x, v) -> x.need(v, 0));
        t.bad("need(0, _)", 0, 7, (x, v) -> x.need(0, v));
        t.bad("fair(_, 0)", 0, 60, (x, v) -> x.fair(v, 0));
        t.bad("fair(5, _)", 0, 1, (x, v) -> x.fair(5, v));
        t.bad("swap(_, 0)", 0, 60, (x, v) -> x.swap(v, 0));
        t.bad("swap(5, _)", 0, 1, (x, v) -> x.swap(5, v));
        t.refused("swap(0, 0)", x -> x.swap(0, 0), NONE);
        t.bad("lose(_, 0)", 0, 60, (x, v) -> x.lose(v, 0));
        t.bad("lose(5, _)", 0, 1, (x, v) -> x.lose(5, v));
        t.refused("lose(0, 0)", x -> x.lose(0, 0), NONE);
        t.bad("price(_)", 0, 7, HaulWages::price);
        t.bad("kind(_, 5, 0)", 0, 7, (x, v) -> x.kind(v, 5, 0));
        t.bad("kind(0, _, 0)", 0, 60, (x, v) -> x.kind(0, v, 0));
        t.bad("kind(0, 5, _)", 0, 1, (x, v) -> x.kind(0, 5, v));
    }

    private static void illnessRefuses() {
        RefusedTest t = ofBusy("what is refused changes nothing: luck, mean");
        t.bad("luck(_, 0, 0)", 0, 10, (x, v) -> x.luck(v, 0, 0));
        t.bad("luck(5, _, 0)", 0, 7, (x, v) -> x.luck(5, v, 0));
        t.bad("luck(5, 0, _)", 0, 1, (x, v) -> x.luck(5, 0, v));
        t.bad("mean(_, 2, 0)", 0, 10, (x, v) -> x.mean(v, 2, 0));
        t.bad("mean(5, _, 0)", 0, 2, (x, v) -> x.mean(5, v, 0));
        t.bad("mean(5, 2, _)", 0, 1, (x, v) -> x.mean(5, 2, v));
    }

    private static void seenRefuse() {
        RefusedTest t = ofBusy("what is refused changes nothing: see, forget, kinds, weights, strengths, ask, drift");
        t.bad("see(_, 0, 0)", 0, 20, (x, v) -> x.see(v, 0, 0));
        t.bad("see(0, _, 0)", 0, 3, (x, v) -> x.see(0, v, 0));
        t.bad("see(0, 0, _)", 0, 999, (x, v) -> x.see(0, 0, v));
        t.refused("see(0, 0, 0)", x -> x.see(0, 0, 0), FULL);
        t.bad("forget(_)", 0, 6, HaulWages::forget);
        t.bad("kinds(_)", 0, 7, HaulWages::kinds);
        t.bad("weights(_)", 0, 7, HaulWages::weights);
        t.bad("strengths(_)", 0, 3, HaulWages::strengths);
        t.bad("ask(_, 0)", 0, 3, (x, v) -> x.ask(v, 0));
        t.bad("ask(0, _)", 0, 1, (x, v) -> x.ask(0, v));
        t.bad("drift(5, _, 0)", 1, 60, (x, v) -> x.drift(5, v, 0));
        t.bad("drift(5, 5, _)", 0, 1, (x, v) -> x.drift(5, 5, v));
    }

    private static void imagesRefuse() {
        RefusedTest t = ofBusy("what is refused changes nothing: keep, back, count");
        t.bad("keep(_)", 0, 1, HaulWages::keep);
        t.bad("back(_)", 0, 1, HaulWages::back);
        t.refused("back(1)", x -> x.back(1), STATE);
        t.bad("count(_)", 0, 5, HaulWages::count);
    }

    private static void sheetsRefuse() {
        RefusedTest t = ofBusy("what is refused changes nothing: sheet, lay, read");
        t.bad("sheet(_, 0, 3)", 0, 3, (x, v) -> x.sheet(v, 0, 3));
        t.bad("sheet(0, _, 3)", 0, 2, (x, v) -> x.sheet(0, v, 3));
        for (int k = 0; k < 4; k++) {
            int of = k;
            t.refused("sheet(" + k + ", 0, 41)", x -> x.sheet(of, 0, 41), BAD);
            t.refused("sheet(" + k + ", 0, MAX)", x -> x.sheet(of, 0, HIGH), BAD);
            t.refused("sheet(" + k + ", 0, -1)", x -> x.sheet(of, 0, -1), -14);
            t.refused("sheet(" + k + ", 0, MIN)", x -> x.sheet(of, 0, LOW), -14);
        }
        t.bad("lay(_, 0, 9)", 0, 3, (x, v) -> x.lay(v, 0, 9));
        t.refused("lay(1, 0, 9)", x -> x.lay(1, 0, 9), -11);
        t.refused("lay(2, 0, 9)", x -> x.lay(2, 0, 9), -12);
        t.refused("lay(0, -1, 9)", x -> x.lay(0, -1, 9), -12);
        t.refused("lay(0, 6, 9)", x -> x.lay(0, 6, 9), -12);
        t.refused("lay(3, 7, 9)", x -> x.lay(3, 7, 9), -12);
        t.refused("lay(3, MAX, 9)", x -> x.lay(3, HIGH, 9), -12);
        t.bad("read(_, 0, 0, 1)", 0, 3, (x, v) -> x.read(v, 0, 0, 1));
        t.bad("read(0, _, 0, 1)", 0, 2, (x, v) -> x.read(0, v, 0, 1));
        t.bad("read(0, 0, 0, _)", 0, 13, (x, v) -> x.read(0, 0, 0, v));
        t.refused("read(0, 0, 0, 1), FULL", x -> x.read(0, 0, 0, 1), -20);
        t.refused("read(3, 2, 3, 2), FULL", x -> x.read(3, 2, 3, 2), -20);
    }

    /** As the busy one, but for room for one GOOD more, and a GOOD of no WEIGHT on SHEET 0. */
    private static HaulWages roomy() {
        HaulWages x = busy();
        x.back(0);
        x.lay(0, 4, 0);
        return x;
    }

    private static void readRefusesByStock() {
        Due.sentence("what is refused changes nothing: read, -20 less i: then none came");
        RefusedTest t = new RefusedTest(RefusedTest::roomy);
        t.refused("read(0, 0, 3, 1)", x -> x.read(0, 0, 3, 1), -20);
        t.refused("read(0, 0, 0, 2)", x -> x.read(0, 0, 0, 2), -21);
        t.refused("read(0, 0, 0, 13)", x -> x.read(0, 0, 0, 13), -21);
        t.refused("read(3, 2, 0, 2), FULL", x -> x.read(3, 2, 0, 2), -21);
    }

    private static void readThatIsTorn() {
        Due.sentence("read: what the machine refuses changes torn() alone");
        RefusedTest t = new RefusedTest(RefusedTest::roomy);
        t.changesNothing("read(1, 0, 0, 1), NULL", x -> x.read(1, 0, 0, 1), 0, FAULTS_VIEW);
        t.changesNothing("read(2, 1, 0, 1), INDEX", x -> x.read(2, 1, 0, 1), 0, FAULTS_VIEW);
        t.changesNothing("read(0, 2, 0, 1), CAST", x -> x.read(0, 2, 0, 1), 0, FAULTS_VIEW);
        t.changesNothing("read(0, 0, 0, 0), none", x -> x.read(0, 0, 0, 0), 0, FAULTS_VIEW);
    }

    private static void fullTapeRefuses() {
        Due.sentence("what is refused changes nothing: feed of a full TAPE");
        RefusedTest t = new RefusedTest(() -> {
            HaulWages x = Due.bay("plain 1 1;one 5;");
            Due.feedAll(x, "one 7;" + " ".repeat(154));
            return x;
        });
        t.refused("feed(32)", x -> x.feed(32), FULL);
        t.refused("feed(63)", x -> x.feed(63), FULL);
        t.bad("feed(_)", 0, 127, HaulWages::feed);
        t.bad("end(_)", 0, 160, HaulWages::end);
    }

    private static void lastWeekRefuses() {
        Due.sentence("what is refused changes nothing: weeks, FULL");
        RefusedTest t = new RefusedTest(() -> {
            HaulWages x = Due.bay("plain 1 1;plain 2 2;one 5;one 2;brings 1;");
            for (int i = 0; i < 33; i++) {
                x.weeks(30);
            }
            x.train(0, 1, 5);
            x.keep(0);
            return x;
        });
        t.refused("weeks(10)", x -> x.weeks(10), FULL);
        t.refused("weeks(30)", x -> x.weeks(30), FULL);
        t.bad("weeks(_)", 0, 30, HaulWages::weeks);
    }

    private static void newObjectRefuses() {
        Due.sentence("what is refused changes nothing: of a new object");
        RefusedTest t = new RefusedTest(HaulWages::new);
        t.refused("good(0, 0)", x -> x.good(0, 0), BAD);
        t.refused("one(0, 0)", x -> x.one(0, 0), BAD);
        t.refused("alter(0, 0, 0)", x -> x.alter(0, 0, 0), BAD);
        t.refused("train(0, 0, 5)", x -> x.train(0, 0, 5), BAD);
        t.refused("hide(0)", x -> x.hide(0), BAD);
        t.refused("see(0, 0, 0)", x -> x.see(0, 0, 0), BAD);
        t.refused("forget(1)", x -> x.forget(1), BAD);
        t.refused("end(1)", x -> x.end(1), BAD);
        t.refused("fair(1, 0)", x -> x.fair(1, 0), STATE);
        t.refused("drift(1, 1, 0)", x -> x.drift(1, 1, 0), STATE);
        t.refused("back(0)", x -> x.back(0), STATE);
        t.refused("back(1)", x -> x.back(1), STATE);
        t.refused("lay(0, 0, 0)", x -> x.lay(0, 0, 0), -11);
        t.refused("sheet(0, 0, -1)", x -> x.sheet(0, 0, -1), -14);
    }

    private static void textsWithAFault() {
        Due.sentence("what is refused changes nothing (but THE TAPE, as told): text by a FAULT");
        RefusedTest t = new RefusedTest(() -> {
            HaulWages x = busy();
            x.end(0);
            return x;
        });
        String[] texts = {"one 1;?", "one 1;plain 1 1;x", "plain 1 1;one 21;", "hooter 1;hooter 1;", "one 1;".repeat(5)};
        int[] places = {6, 16, 14, 9, 24};
        for (int i = 0; i < texts.length; i++) {
            String text = texts[i];
            t.changesNothing("text() of '" + text + "'", x -> Due.tell(x, text), -10 - places[i], FAULTS_VIEW);
            HaulWages x = busy();
            x.end(0);
            Due.tell(x, text);
            Due.due("torn() behind '" + text + "'", x.torn(), 3);
            Due.due("fault() behind '" + text + "'", x.fault(), i + 1);
        }
    }

    /** What is only asked changes nothing, whatever it answers. */
    private void asked(String name, Call call) {
        refused(name, call, call.on(recipe.make()));
    }

    private static void questions() {
        RefusedTest t = ofBusy("BY WEEKS: as it would be; drift: nothing is changed: what is asked changes nothing");
        t.asked("fault()", HaulWages::fault);
        t.asked("rule(6)", x -> x.rule(6));
        t.asked("good(7, 5)", x -> x.good(7, 5));
        t.asked("one(0, 2)", x -> x.one(0, 2));
        t.asked("one(2, 3)", x -> x.one(2, 3));
        t.asked("weeks(0)", x -> x.weeks(0));
        t.asked("runs(60, 0)", x -> x.runs(60, 0));
        t.asked("ahead(2, 60, 1)", x -> x.ahead(2, 60, 1));
        t.asked("gone(7)", x -> x.gone(7));
        t.asked("rich(2, 99)", x -> x.rich(2, 99));
        t.asked("arms(2, 0)", x -> x.arms(2, 0));
        t.asked("need(1, 7)", x -> x.need(1, 7));
        t.asked("fair(60, 0)", x -> x.fair(60, 0));
        t.asked("swap(60, 0)", x -> x.swap(60, 0));
        t.asked("lose(60, 0)", x -> x.lose(60, 0));
        t.asked("price(0)", x -> x.price(0));
        t.asked("kind(0, 60, 0)", x -> x.kind(0, 60, 0));
        t.asked("luck(3, 7, 0)", x -> x.luck(3, 7, 0));
        t.asked("mean(3, 2, 0)", x -> x.mean(3, 2, 0));
        t.asked("forget(6)", x -> x.forget(6));
        t.asked("end(6)", x -> x.end(6));
        t.asked("kinds(0)", x -> x.kinds(0));
        t.asked("weights(0)", x -> x.weights(0));
        t.asked("strengths(2)", x -> x.strengths(2));
        t.asked("ask(2, 0)", x -> x.ask(2, 0));
        t.asked("drift(5, 60, 0)", x -> x.drift(5, 60, 0));
        t.asked("torn()", HaulWages::torn);
        t.asked("count(5)", x -> x.count(5));
    }
}
