import java.lang.management.ManagementFactory;

/** What the dearest runs of 512 calls make: all calls of a run live in one room, and nothing in it is freed. */
public final class RoomTest {
    private static final Due due = new Due("RoomTest");
    private static final com.sun.management.ThreadMXBean THREADS =
            (com.sun.management.ThreadMXBean) ManagementFactory.getThreadMXBean();

    public static void main(String[] args) {
        // Once unmeasured, as the first calls load classes.
        manyObjects();
        fullTape();
        allOnes();
        atMost("512 objects", 10_000_000, RoomTest::manyObjects);
        atMost("objects with a full tape each", 6_000_000, RoomTest::fullTapes);
        atMost("a full tape read again and again", 1_000_000, RoomTest::fullTape);
        atMost("as many frames as there can be", 2_000_000, RoomTest::allOnes);
        due.end();
    }

    private static void atMost(String what, long bytes, Runnable run) {
        long before = THREADS.getCurrentThreadAllocatedBytes();
        run.run();
        long made = THREADS.getCurrentThreadAllocatedBytes() - before;
        due.is(what + " made " + made + " bytes: at most " + bytes, made <= bytes ? 1 : 0, 1);
    }

    private static void manyObjects() {
        for (int k = 0; k < 512; k++) {
            new WireCodec();
        }
    }

    private static void fullTapes() {
        for (int k = 0; k < 14; k++) {
            Due.filled(65536);
        }
    }

    private static void fullTape() {
        WireCodec x = Due.filled(65536);
        for (int k = 0; k < 100; k++) {
            x.frames(0, 2);
            x.frame(0, 8);
            x.parameters(0, true);
            x.datagram(0, 0);
        }
    }

    /** CRYPTO frames whose data is PINGs and ends with the begin of a RESET, which swallows the next one's header. */
    private static void allOnes() {
        WireCodec x = new WireCodec();
        for (int k = 0; k < 249; k++) {
            x.add(0x0101010101010101L, 8);
        }
        x.add(0x0101010101010104L, 8);
        for (int k = 0; k < 32; k++) {
            x.put(6);
        }
        due.is("frames", x.frames(4, 2), 32 * 1999 + 31);
        due.is("the last one that is right", x.frame(63998, 8), x.size() - 1);
        due.is("its kind", x.frame(63998, 4), 1);
        due.is("the fault behind it", x.fault(true), x.size() - 1);
    }
}
