import java.lang.management.ManagementFactory;

/** All calls of a run live in one room: behind its constructor an object makes nothing more. */
public final class RoomTest {
    private static final String CROWD = "plain 1 1;awkward 2 3;feather 9 9;crate 1 5;plain 2 2;plain 3 3;plain 4 1;"
        + "feather 1 7;one 20;one 19;one 18;one 7;hooter 6;brings 8;";
    private static final com.sun.management.ThreadMXBean THREADS =
        (com.sun.management.ThreadMXBean) ManagementFactory.getThreadMXBean();

    public static void main(String[] args) {
        HaulWages first = Due.bay(CROWD);
        callAll(first);
        HaulWages x = Due.bay(CROWD);
        long before = made();
        for (int i = 0; i < 10; i++) {
            callAll(x);
        }
        long bytes = made() - before;
        Due.due("no call makes anything (" + bytes + " bytes)", bytes < 2000 ? 1 : 0, 1);
        before = made();
        HaulWages more = new HaulWages();
        bytes = made() - before;
        Due.due("a new object is small (" + bytes + " bytes, " + more.rule(0) + ")", bytes < 40000 ? 1 : 0, 1);
        Due.finish();
    }

    private static long made() {
        return THREADS.getThreadAllocatedBytes(Thread.currentThread().getId());
    }

    private static void callAll(HaulWages x) {
        long sum = x.feed(32) + x.end(0) + x.rule(6) + x.good(0, 4) + x.one(0, 2) + x.alter(0, 0, 1) + x.train(0, 0, 20);
        sum += x.set(0, 6) + x.stock(0, 1, 1) + x.hide(0) + x.fill() + x.weeks(1) + x.runs(60, 0) + x.ahead(0, 60, 0);
        sum += x.gone(0) + x.rich(0, 999) + x.arms(0, 0) + x.need(0, 0) + x.fair(60, 0) + x.swap(60, 0) + x.lose(60, 0);
        sum += x.price(0) + x.kind(0, 60, 0) + x.luck(3, 0, 0) + x.mean(3, 2, 0) + x.see(20, 0, 5) + x.kinds(0);
        sum += x.weights(0) + x.strengths(0) + x.ask(0, 0) + x.forget(0) + x.ask(0, 0) + x.drift(1, 60, 0) + x.keep(0);
        sum += x.back(0) + x.sheet(0, 0, 40) + x.lay(0, 1, 1) + x.read(0, 0, 0, 13) + x.torn() + x.count(3) + x.fault();
        Due.due("answers", sum == Long.MIN_VALUE ? 1 : 0, 0);
    }
}
