import java.lang.management.ManagementFactory;

/** All calls of a run live in one room: calls that don't throw make no object, and a new one is small. */
public final class RoomTest {
    private static final com.sun.management.ThreadMXBean THREADS =
        (com.sun.management.ThreadMXBean) ManagementFactory.getThreadMXBean();

    public static void main(String[] args) {
        // the first rounds load classes
        used();
        used();
        long calls = used();
        Expect.answer("bytes that 490 calls made", "below 4096", () -> calls < 4096 ? "below 4096" : calls);
        made();
        long object = made();
        Expect.answer("bytes of one object", "below 16384", () -> object < 16384 ? "below 16384" : object);
        Expect.end();
    }

    private static long used() {
        IntegerSplitter x = Expect.loaded(0, -36, 0, 49, 0, -14, 0, 1);
        Expect.load(x, 1, -6, 3, -4, 2);
        long before = THREADS.getCurrentThreadAllocatedBytes();
        for (int i = 0; i < 35; i++) {
            x.factor(0);
            x.take(3, 6);
            x.prime(1);
            x.common(2, 0, 1);
            x.divide(2, 0, 3);
            x.multiply(2, 2, 3);
            x.add(2, 2, 1, true);
            x.derive(2, 2);
            x.shift(2, 1, 1);
            x.modular(0, 13);
            x.roots(0, 13);
            x.value(0, 9);
            x.content(0);
            x.put(2, 0, 1);
        }
        return THREADS.getCurrentThreadAllocatedBytes() - before;
    }

    private static long made() {
        long before = THREADS.getCurrentThreadAllocatedBytes();
        IntegerSplitter x = new IntegerSplitter();
        long bytes = THREADS.getCurrentThreadAllocatedBytes() - before;
        return x.unit() + bytes;
    }
}
