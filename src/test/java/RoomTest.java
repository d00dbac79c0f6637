import java.lang.management.ManagementFactory;

/** All calls of a run live in one room: an object is small, and its calls make nothing. */
public final class RoomTest {
    private static final Check check = new Check();
    private static final com.sun.management.ThreadMXBean threads =
        (com.sun.management.ThreadMXBean) ManagementFactory.getThreadMXBean();
    private static long sum = 0;

    public static void main(String[] args) {
        for (int i = 0; i < 20; i++) {
            callAll(new GloveRegret());
        }
        long before = made();
        GloveRegret x = new GloveRegret();
        long object = made() - before;
        check.due("an object takes " + object + " bytes", object < 12000 ? 1 : 0, 1);
        before = made();
        for (int i = 0; i < 100; i++) {
            callAll(x);
        }
        long calls = made() - before;
        check.due("some 10000 calls took " + calls + " bytes", calls < 10000 ? 1 : 0, 1);
        check.due("they were made", sum != 0 ? 1 : 0, 1);
        check.end();
    }

    private static long made() {
        return threads.getThreadAllocatedBytes(Thread.currentThread().getId());
    }

    private static void callAll(GloveRegret x) {
        for (int g = 0; g < 9; g++) {
            sum += x.guest(g % 2, 5 + g % 5) + x.mend(g, 0, 50 - g) + x.slips(g, 3) + x.mend(g, 5, 0);
        }
        sum += x.feed('r') + x.feed('*') + x.feed('l') + x.law() + x.feed(')') + x.law();
        sum += x.row(0, 0, 9) + x.row(1, 0, 40) + x.put(0, 0, 3) + x.shift(0, 0, 1, 3, 5) + x.element(1, 3);
        sum += x.guests(1, 0, 3) + x.judge(0) + x.slip(0, 5, 5) + x.of(0, 9);
        for (int what = 0; what < 6; what++) {
            sum += x.fits(0, 1, what) + x.pairs(what) + x.held(what) + x.upside(what) + x.led(what) + x.count(what);
            sum += x.later(30, 2, what) + x.peak(2, what) + x.slipWhen(3, 1005, what) + x.byTurns(34, 5, what);
        }
        sum += x.first(60) + x.goesAs(60, 3) + x.goesWhen(60, 3) + x.waits(60) + x.sorry(8, 0);
        sum += x.drawn(7, 306006, -1) + x.drawn(7, 306006, 3);
        sum += x.image() + x.minute() + x.goes() + x.looks(0, 5) + x.looks(1, 5) + x.back() + x.undo() + x.redo();
        sum += x.body(7) + x.act(0, 3, 9) + x.trace(3) + x.keep(2, 0) + x.taken(2, 1);
    }
}
