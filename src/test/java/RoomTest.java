import com.sun.management.ThreadMXBean;
import java.lang.management.ManagementFactory;

/** All calls of a run live in one room: the constructor makes the rows, and no call makes anything more. */
public final class RoomTest {
    private static final long MOST_BYTES = 64 * 1024;

    private RoomTest() {
    }

    public static void main(String[] arguments) {
        ThreadMXBean bean = (ThreadMXBean) ManagementFactory.getThreadMXBean();
        long thread = Thread.currentThread().getId();
        play();
        long before = bean.getThreadAllocatedBytes(thread);
        int heap = play();
        long made = bean.getThreadAllocatedBytes(thread) - before;
        if (made > MOST_BYTES) {
            Expect.fail("a run made " + made + " bytes of objects and arrays, at most " + MOST_BYTES + " are due");
        }
        Expect.due("the run has great diagrams", heap >= 300, true);
        Expect.end("RoomTest");
    }

    /** 512 calls, the dearest ones many times over great diagrams. */
    private static int play() {
        SymbolicChecker x = new SymbolicChecker();
        int calls = 0;
        int greatest = 0;
        for (int r = 0; r < 16; r++, calls++) {
            x.variable(r, r & 7);
        }
        for (int i = 0; i < 80; i++, calls += 3) {
            x.choose(i & 15, i + 1 & 15, i + 6 & 15, i + 11 & 15);
            x.compose(i + 3 & 15, i + 3 & 15, i & 7, i & 15);
            x.apply(i + 9 & 15, 6, i + 9 & 15, i + 3 & 15);
        }
        x.quantify(0, 1, 0xAA, false);
        calls++;
        for (int i = 0; calls < 512; i++, calls += 4) {
            greatest = Math.max(greatest, x.sift(i & 7));
            x.check(0, 1 + i % 15, 7, 0, 0);
            x.reach(0, 1 + i % 15, 0);
            x.turn(1 + i % 15, 1 + i % 15);
        }
        return greatest;
    }
}
