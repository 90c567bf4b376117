import com.sun.management.ThreadMXBean;
import java.lang.management.ManagementFactory;

/** All calls of a run live in one room: a new object takes little of it, and no call takes any. */
public final class RoomTest {
    private static final int CALLS = 512;
    private static final ThreadMXBean THREADS = (ThreadMXBean) ManagementFactory.getThreadMXBean();
    private static final Due DUE = new Due();
    private static long sum = 0;

    public static void main(String[] args) {
        allCalls(new PackedBends(), 0);
        newObject();
        noCallTakesRoom();
        DUE.end();
    }

    private static long taken() {
        return THREADS.getCurrentThreadAllocatedBytes();
    }

    /** 7.3 million elements for a run: 512 new objects of 14000 elements would fill it. */
    private static void newObject() {
        long before = taken();
        PackedBends x = new PackedBends();
        long bytes = taken() - before;
        sum += x.bend(1);
        // Most rows are of int, and 8 bytes more or less an object do not matter.
        DUE.isTrue("a new object takes " + bytes + " bytes", bytes < 4 * 14000);
    }

    private static void noCallTakesRoom() {
        PackedBends x = new PackedBends();
        long before = taken();
        for (int i = 0; i < CALLS; i++) {
            allCalls(x, i);
        }
        // Measuring takes a few bytes itself; one object in each round would take 8192 at least.
        long bytes = taken() - before;
        DUE.isTrue("calls take " + bytes + " bytes", bytes < CALLS);
        DUE.isTrue("something was answered", sum != 0);
    }

    private static void allCalls(PackedBends x, int i) {
        int place = 1 + i % 4;
        sum += i % 3 == 0 ? x.set(-1, 2, 2, 3) : i % 3 == 1 ? x.set(-6, 11, 14, 15) : x.set(0, 0, 1, 1);
        sum += x.bend(place) + x.turn(place) + x.steps() + x.step(0) + x.root(i % 4) + x.common();
        sum += x.upTo(i * 9) + x.just(i) + x.least(i * 3) + x.remainders(2 + i % 11) + x.gap(1 + i, i % 5 - 1);
        sum += x.bendOf(1234, place) + x.times(4321, place, 1) + x.product(12, place, 21, 1) + x.touching(1, 2, place);
        sum += x.keep(i % 3) + x.back(i % 3) + x.shelf(i % 3, i % 4, i % 7) + x.lay(i % 3, 0, place) + x.seen(i % 3, 0) + x.many(i % 4);
    }
}
