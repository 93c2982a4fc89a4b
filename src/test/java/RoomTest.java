import com.sun.management.ThreadMXBean;
import java.lang.management.ManagementFactory;

/** All calls of a run live in one room, so calls make next to nothing anew, however many there are. */
public final class RoomTest {
    private static final ThreadMXBean BEAN = (ThreadMXBean) ManagementFactory.getThreadMXBean();

    public static void main(String[] args) {
        Check check = new Check();
        longRun(new RxQueues(), 20);
        long start = BEAN.getCurrentThreadAllocatedBytes();
        RxQueues x = new RxQueues();
        long made = BEAN.getCurrentThreadAllocatedBytes();
        longRun(x, 2);
        long few = BEAN.getCurrentThreadAllocatedBytes();
        longRun(x, 30);
        long many = BEAN.getCurrentThreadAllocatedBytes();
        System.out.println("bytes: " + (made - start) + " when made, " + (few - made) + " by first calls, "
            + (many - few) + " by later ones");
        check.due("an object is small when made", made - start < 12000, true);
        check.due("rooms of first use", few - made < 120000, true);
        check.due("later calls make nothing", many - few < 1000, true);
        check.finish();
    }

    private static void longRun(RxQueues x, int rounds) {
        for (int i = 0; i < rounds; i++) {
            x.key(i, 77, 5);
            x.flow(i, 1, 2, 3, 0);
            x.terms(6, 1);
            x.reads(0, 3);
            x.burst(0, 20, 900);
            x.steer(0, 1);
            x.packet(0, 100, true);
            x.image(i & 1);
            x.would(100, 1);
            x.drain();
            x.nextCall(0);
            x.joined(0, 1);
            x.spread(0);
            x.load(2);
            x.aim(0, 15);
            x.alike();
            x.reach();
            x.balance();
            x.retire(i & 3);
            x.tick(5);
            x.tick(5);
            x.undo();
            x.back(i & 1);
            x.table(1, 2);
            x.mask(31 - i);
            x.gap(0, 4);
            x.free(0);
            x.poll(1);
        }
    }
}
