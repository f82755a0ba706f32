import com.sun.management.ThreadMXBean;
import java.lang.management.ManagementFactory;

/** All memory is made once: no call behind the constructor makes an object or an array. */
public final class MemoryTest {
    private static final ThreadMXBean THREADS = (ThreadMXBean) ManagementFactory.getThreadMXBean();
    // The room for all of a run, in elements of eight bytes; an object must be far below it.
    private static final long MOST_BYTES = 8L * 7_300_000 / 20;

    public static void main(String[] args) {
        Due due = new Due();
        // Once before, so that what the machine itself makes for its first calls is not counted.
        useAll(new ThinPool());
        madeByNothing();

        long before = THREADS.getCurrentThreadAllocatedBytes();
        ThinPool x = new ThinPool();
        long made = THREADS.getCurrentThreadAllocatedBytes() - before;
        due.isTrue("the constructor makes " + made + " bytes, more than none", made > 0);
        due.isTrue("the constructor makes " + made + " bytes, which is small", made < MOST_BYTES);

        before = THREADS.getCurrentThreadAllocatedBytes();
        useAll(x);
        made = THREADS.getCurrentThreadAllocatedBytes() - before;
        due.same("bytes made by a run of calls", made, madeByNothing());
        due.end();
    }

    private static long madeByNothing() {
        long before = THREADS.getCurrentThreadAllocatedBytes();
        return THREADS.getCurrentThreadAllocatedBytes() - before;
    }

    /** Some 490 calls of every kind, right ones and refused ones. */
    private static void useAll(ThinPool x) {
        for (int round = 0; round < 32; round++) {
            x.make(round % 8);
            x.write(round % 8, round * 3, 0, 128, round);
            x.snap(8 + round % 8, round % 8);
            x.read(round % 8, round * 3, 5);
            x.trim(8 + round % 4, 0, 64);
            x.pieces(-1);
            x.next(0, round);
            x.shared(round % 16, round * 3);
            x.tell(round, round);
            x.told(32);
            x.keep(round % 5 == 4 ? 1 + round % 2 : 0, round);
            x.mount();
            x.check();
            x.count(round % 3);
            if (round % 9 == 8) {
                x.remove(round % 8);
                x.fail();
            } else if (round == 30) {
                x.fail();
                x.lay();
            }
            x.mount();
        }
    }
}
