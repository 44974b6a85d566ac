import com.sun.management.ThreadMXBean;
import java.lang.management.ManagementFactory;

/** All calls of a run live in one room: the dearest ones, 512 of each, make next to nothing. */
public final class RoomTest {
    private static final Check CHECK = new Check();
    private static final int CALLS = 512;
    private static final long BYTES_OF_A_RUN = 200_000;

    public static void main(String[] args) {
        ThreadMXBean threads = (ThreadMXBean) ManagementFactory.getThreadMXBean();
        long self = Thread.currentThread().getId();
        dearest();
        long before = threads.getThreadAllocatedBytes(self);
        long after = threads.getThreadAllocatedBytes(self);
        long ofLooking = after - before;
        before = threads.getThreadAllocatedBytes(self);
        long sum = dearest();
        after = threads.getThreadAllocatedBytes(self);
        long made = after - before - ofLooking;
        CHECK.due("a run of the dearest calls makes " + made + " bytes", made <= BYTES_OF_A_RUN ? 1 : 0, 1);
        CHECK.due("the same calls give the same answers", dearest(), sum);
        CHECK.end("RoomTest");
    }

    private static long dearest() {
        KeelTolls x = new KeelTolls();
        for (int l = 0; l < 8; l++) {
            Check.law(x, "L*B*D/2<900+M*A*H/3<900+S*K*99/4<900+A*S*" + (l + 1) + "/9");
        }
        for (int h = 0; h < 16; h++) {
            Check.hull(x, h % 3, 1, 2, 3, 4, 5, 6, 7, 8, 9, 1, 2, 3, 4, 5, 6, 1 + h % 9);
        }
        long sum = 0;
        for (int call = 0; call < CALLS; call++) {
            sum += x.mend(4, 3, call % 3, call);
            sum += x.crowd(4, 3, call % 3, call % 8, call % 99);
            sum += x.without(4, 3, call % 3, call % 8, call % 4, 1 + call % 2);
            sum += x.paid(99, call % 8);
            sum += x.step(call % 16, call % 8);
            sum += x.sheet(call % 4, call % 3, 60);
            sum += Check.law(x, "99*99*99/9<999+99*99*99/9<999+99*99*99/9<999");
        }
        return sum;
    }
}
