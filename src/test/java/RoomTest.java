import com.sun.management.ThreadMXBean;
import java.lang.management.ManagementFactory;

/** All calls of a run live in one room: the constructor makes the rows, and no call makes anything more. */
public final class RoomTest {
    private static final ThreadMXBean BEAN = (ThreadMXBean) ManagementFactory.getThreadMXBean();
    private static final long MOST_OF_AN_OBJECT = 48 * 1024;
    // Less than the smallest object for each call, and not 0, as the machine may make something of its own.
    private static final long MOST_OF_CALLS = 4 * 1024;

    private RoomTest() {
    }

    public static void main(String[] arguments) {
        play(new SymbolicChecker());
        long begin = made();
        SymbolicChecker x = new SymbolicChecker();
        long behindConstructor = made();
        int heap = play(x);
        long behindCalls = made();
        atMost("the constructor", behindConstructor - begin, MOST_OF_AN_OBJECT);
        atMost("512 calls", behindCalls - behindConstructor, MOST_OF_CALLS);
        Expect.due("the run has great diagrams", heap >= 300, true);
        Expect.end("RoomTest");
    }

    private static long made() {
        return BEAN.getThreadAllocatedBytes(Thread.currentThread().getId());
    }

    private static void atMost(String what, long bytes, long most) {
        if (bytes > most) {
            Expect.fail(what + " made " + bytes + " bytes of objects and arrays, at most " + most + " are due");
        }
    }

    /** 512 calls, the dearest ones many times over great diagrams. */
    private static int play(SymbolicChecker x) {
        int calls = 0;
        int greatest = 0;
        for (int r = 0; r < 16; r++, calls++) {
            x.variable(r, r & 7);
        }
        for (int i = 0; i < 80; i++, calls += 3) {
            x.choose(i & 15, i + 1 & 15, i + 6 & 15, i + 11 & 15);
            x.compose(i + 3 & 15, i + 3 & 15, i & 7, i & 15);
            x.apply(i + 9 & 15, 6, i + 9 & 15, i + 3 & 15);
        }
        x.quantify(0, 1, 0xAA, false);
        calls++;
        for (int i = 0; calls < 512; i++, calls += 4) {
            greatest = Math.max(greatest, x.sift(i & 7));
            x.check(0, 1 + i % 15, 7, 0, 0);
            x.reach(0, 1 + i % 15, 0);
            x.turn(1 + i % 15, 1 + i % 15);
        }
        return greatest;
    }
}
