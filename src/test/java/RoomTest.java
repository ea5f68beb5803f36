import java.lang.management.ManagementFactory;

/**
 * What an object's 512 calls, those that fill it and those of one kind, allocate: all calls of a run
 * live in one room of some 600,000 objects, and a row of 32 numbers is the dearest there is. No object
 * is smaller than 16 bytes.
 */
public final class RoomTest {
    private static final int CALLS = 512 - 40;
    private static final long MOST_BYTES = 600_000L * 16 / 4;

    private static final Due due = new Due();
    private static final com.sun.management.ThreadMXBean meter =
            (com.sun.management.ThreadMXBean) ManagementFactory.getThreadMXBean();

    private interface Run {
        void call(Spanjudge object);
    }

    public static void main(String[] args) {
        measure("a new object", x -> { }, 1);
        measure("sort", x -> x.sort('i', 'u'), CALLS);
        measure("rank", x -> x.rank('i', 's', 3), CALLS);
        measure("share", x -> x.share('i'), CALLS);
        measure("asks", x -> x.asks('i', 'm', 1, 2), CALLS);
        measure("asksRows", x -> x.asksRows('i', 'm', 1, 2), CALLS);
        measure("common", x -> x.common('i', 1, 2), CALLS);
        measure("ending", x -> x.ending('i', 's', 0, 31), CALLS);
        measure("distinct", x -> x.distinct('i', 0), CALLS);
        measure("longest", x -> x.longest('i', 0), CALLS);
        measure("occurs", x -> x.occurs('i', 0, 11), CALLS);
        measure("rotation", x -> x.rotation('i', 's', 0), CALLS);
        measure("factors", x -> x.factors('i', 's', 0), CALLS);
        measure("factor", x -> x.factor('i', 'u', 0, 0), CALLS);
        measure("convert", x -> x.convert('i', 0, 'l', 0, 'u'), CALLS);
        measure("repeat", x -> x.repeat('i', 0, 1), CALLS);
        measure("checksum", x -> x.checksum(), CALLS);
        measure("isTrue", x -> x.isTrue('i', 1, 2, 3), CALLS);
        measure("rowIsTrue", x -> x.rowIsTrue('i', 's', 0), CALLS);
        due.end("RoomTest");
    }

    private static Spanjudge full() {
        Spanjudge x = new Spanjudge();
        for (int row = 0; row < 4; row++) {
            Due.put(x, 'i', row, new long[4]);
            x.repeat('i', row, 8);
        }
        for (int span = 0; span < 12; span++) {
            x.span(span, span % 4, 0, 32);
        }
        x.span(11, 0, 0, 1);
        return x;
    }

    private static void measure(String name, Run run, int calls) {
        long before = meter.getCurrentThreadAllocatedBytes();
        Spanjudge x = full();
        for (int call = 0; call < calls; call++) {
            run.call(x);
        }
        long bytes = meter.getCurrentThreadAllocatedBytes() - before;
        due.is(name + " allocates " + bytes + " bytes, below " + MOST_BYTES, true, bytes < MOST_BYTES);
    }
}
