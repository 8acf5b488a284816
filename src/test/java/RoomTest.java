import com.sun.management.ThreadMXBean;
import java.lang.management.ManagementFactory;

/** All rows are made with the object: calls make no objects, and a new object is small. */
public final class RoomTest {
    private static final ThreadMXBean THREADS = (ThreadMXBean) ManagementFactory.getThreadMXBean();

    public static void main(String[] args) {
        Check check = new Check();
        check.part("room");
        int answers = use(new PackShelf());
        PackShelf x = new PackShelf();
        long before = THREADS.getCurrentThreadAllocatedBytes();
        answers += use(x);
        long made = THREADS.getCurrentThreadAllocatedBytes() - before;
        // A little is left for what the machine itself may make between the two readings.
        check.due("calls make no objects (" + made + " bytes)", made < 4096, true);
        before = THREADS.getCurrentThreadAllocatedBytes();
        x = new PackShelf();
        made = THREADS.getCurrentThreadAllocatedBytes() - before;
        // 512 new objects must fit into a room of 7.3 million fields and elements, of four bytes here.
        check.due("a new object is small (" + made + " bytes)", made < 4 * 7300000 / 512, true);
        check.due("used", answers + x.things() > 0, true);
        check.end();
    }

    private static int use(PackShelf x) {
        int answers = 0;
        for (int round = 0; round < 8; round++) {
            for (int i = 0; i < 4; i++) {
                x.type(0x6162636465666768L, 8);
                x.type(0x6162636465666700L + i + 4 * round, 8);
                answers += x.entry(i, x.blob());
            }
            int commit = x.commit(x.tree(), -1, round);
            x.branch(round % 4, commit);
            answers += x.pack();
            x.alter(40, round);
            answers += x.unpack();
            x.seal();
            answers += x.unpack();
            answers += x.pack() + x.unpack();
            x.branch(round % 3, -1);
            answers += x.sweep() + x.unpack() + (x.reached(0) ? 1 : 0);
        }
        return answers;
    }
}
