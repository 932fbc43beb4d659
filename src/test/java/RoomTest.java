import com.sun.management.ThreadMXBean;
import java.lang.management.ManagementFactory;

/** The dearest calls, 512 of them, make nothing beyond what the constructor made (rule 12 of LANGUAGE.md). */
public final class RoomTest {
    private static final ThreadMXBean MEMORY = (ThreadMXBean) ManagementFactory.getThreadMXBean();
    private static final long MOST_OF_CONSTRUCTOR = 500_000;
    private static final long MOST_OF_CALLS = 10_000;
    private static final int ROUNDS = 32;

    public static void main(String[] args) {
        Due due = new Due();
        new TurnCounts();
        made();
        long before = made();
        TurnCounts x = new TurnCounts();
        long constructed = made();
        int wrong = 0;
        for (int i = 0; i < ROUNDS; i++) {
            wrong += wrongOfSixteen(x, i % 2);
        }
        long called = made();
        due.is("wrong answers", wrong, 0);
        due.is("bytes of the constructor: " + (constructed - before), constructed - before <= MOST_OF_CONSTRUCTOR ? 1 : 0, 1);
        due.is("bytes of 512 calls: " + (called - constructed), called - constructed <= MOST_OF_CALLS ? 1 : 0, 1);
        due.end();
    }

    private static long made() {
        return MEMORY.getCurrentThreadAllocatedBytes();
    }

    /** Sixteen calls; texts of what is wrong would be counted as made, so only how many are wrong is told. */
    private static int wrongOfSixteen(TurnCounts x, int k) {
        x.points(7);
        x.sorts(4);
        for (int point = 0; point < 7; point++) {
            x.say('0' + (point + 1) % 7);
        }
        int wrong = x.join() == 7 ? 0 : 1;
        wrong += x.patterns(28) == 0 ? 0 : 1;
        wrong += x.beside(7, 4, 0) == 5040 ? 0 : 1;
        wrong += x.patterns(-1) == 120 ? 0 : 1;
        wrong += x.type(-1, 0) == 15 ? 0 : 1;
        wrong += x.image(k) + x.restore(k) == 2 ? 0 : 1;
        return wrong;
    }
}
