import com.sun.management.ThreadMXBean;
import java.lang.management.ManagementFactory;

/** All calls of one run live in one room, so calls make no objects, and a new object of the class is small. */
public final class RoomTest {
    private static final int ROUNDS = 60;
    private static final int OBJECTS = 200;
    private static final long MOST_BYTES_OF_A_NEW_ONE = 16000;

    private static long sum = 0;

    public static void main(String[] args) {
        if (!(ManagementFactory.getThreadMXBean() instanceof ThreadMXBean bean)
                || !bean.isThreadAllocatedMemorySupported()) {
            System.out.println("what a call makes can't be measured here");
            return;
        }
        long thread = Thread.currentThread().getId();
        StepRegisters x = new StepRegisters();
        // The machine itself makes objects when a call is made for the first time.
        everyCall(x, 0);
        long start = bean.getThreadAllocatedBytes(thread);
        for (int round = 1; round <= ROUNDS; round++) {
            everyCall(x, round);
        }
        long byCalls = bean.getThreadAllocatedBytes(thread) - start;
        start = bean.getThreadAllocatedBytes(thread);
        for (int k = 0; k < OBJECTS; k++) {
            sum += new StepRegisters().count(16);
        }
        long byOne = (bean.getThreadAllocatedBytes(thread) - start) / OBJECTS;
        boolean small = byCalls < ROUNDS * 16 && byOne < MOST_BYTES_OF_A_NEW_ONE;
        System.out.println((small ? "small: " : "TOO MUCH: ") + byCalls + " bytes by " + ROUNDS
                + " rounds of all calls, " + byOne + " by a new object (" + sum + ")");
        if (!small) {
            System.exit(1);
        }
    }

    /** Each call at least once, refused ones among them; every round another program. */
    private static void everyCall(StepRegisters x, int round) {
        for (int s = 0; s < 11; s++) {
            sum += x.put((s + round) % 5, (3 * s + round) % 7, s * s % 7, (s + round + 6) % 7);
        }
        sum += x.image(round % 3) + x.free(round % 7, round & 1) + x.exchange(round % 7, 3) + x.set(round % 8, round);
        for (int s = -1; s < 11; s++) {
            sum += x.cross(s) + x.told(s, 3) + x.value(s) + x.sight(s) + x.weight(s, 2) + x.taken(2, s);
        }
        for (int r = 0; r <= 4; r++) {
            for (int mode = 0; mode <= 1; mode++) {
                sum += x.plan(r, mode, 0) + x.place(r, mode, 0, 1) + x.step(r, mode, 9, 2) + x.run(r, mode);
            }
        }
        for (int what = -1; what <= 17; what++) {
            sum += x.count(what) + x.hand(what);
        }
        sum += x.restore(round % 3) + x.restore(1);
        for (int s = 0; s < 11; s++) {
            sum += x.drop(0);
        }
    }
}
