import java.lang.management.ManagementFactory;

/** All calls of a run share one room: calls behind the constructor make next to nothing. */
public final class RoomTest {
    private static final long MOST_BYTES_BY_CALLS = 16384;
    private static final long MOST_BYTES_BY_OBJECT = 16384;
    private static final Check check = new Check("RoomTest");

    public static void main(String[] args) {
        com.sun.management.ThreadMXBean bean =
                (com.sun.management.ThreadMXBean) ManagementFactory.getThreadMXBean();
        // Once before the counting, so that what the machine itself loads does not count.
        everyCall(new CliqueSearch());
        bean.getCurrentThreadAllocatedBytes();

        long start = bean.getCurrentThreadAllocatedBytes();
        CliqueSearch x = new CliqueSearch();
        long made = bean.getCurrentThreadAllocatedBytes();
        everyCall(x);
        long called = bean.getCurrentThreadAllocatedBytes();

        check.holds("an object takes " + (made - start) + " bytes",
                made - start <= MOST_BYTES_BY_OBJECT);
        check.holds("its calls take " + (called - made) + " bytes",
                called - made <= MOST_BYTES_BY_CALLS);
        check.finish();
    }

    private static void everyCall(CliqueSearch x) {
        for (int v = 0; v < 16; v++) {
            x.node(v + 1);
        }
        int n = x.count(0);
        for (int a = 0; a < n; a++) {
            x.edge(a, (a * 5 + 3) % n, true);
            x.edge(a, (a * 7 + 1) % n, true);
            x.weight(a, 1 + a);
            x.neighbours(a);
        }
        x.greatest();
        x.heaviest();
        x.cover();
        x.apart();
        x.search(100000);
        x.sides();
        x.pairs();
        for (int k = -1; k <= 17; k++) {
            x.maximal(k % 2 == 0 ? k : x.maximal());
            x.cliques(k);
            x.near(k);
            x.colours((1 << n) - 1);
            x.colour((1 << n) - 1, k);
            x.peeled(k);
            x.core(k);
            x.searched(k);
            x.sure(k);
            x.taken(k);
            x.count(k);
        }
    }
}
