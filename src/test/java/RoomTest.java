import com.sun.management.ThreadMXBean;
import java.lang.management.ManagementFactory;

/** All calls of a run live in one room: only the constructor makes objects. */
public final class RoomTest {
    public static void main(String[] args) {
        Due due = new Due("RoomTest");
        ThreadMXBean threads = (ThreadMXBean) ManagementFactory.getThreadMXBean();
        // The first rounds load what the machine itself needs.
        for (int round = 0; round < 3; round++) {
            PillarLight x = new PillarLight();
            allCalls(x);
            long before = threads.getCurrentThreadAllocatedBytes();
            allCalls(x);
            long made = threads.getCurrentThreadAllocatedBytes() - before;
            due.holds("calls make no objects, but " + made + " bytes were made", round < 2 || made < 100);
        }
        due.close();
    }

    private static int allCalls(PillarLight x) {
        int sum = x.put(10, 1) + x.lamp(20, 9, 9) + x.lamp(21, 9, 9) + x.takeLamp(0) + x.fill(0, 5);
        sum += x.set(0, 4) + x.set(1, 2) + x.step(1) + x.step(2) + x.forget() + x.clear();
        for (int at = 0; at < 71; at++) {
            sum += x.append(at % 9 == 8 ? '/' : '.');
        }
        sum += x.fault(0) + x.fault(1) + x.load();
        sum += x.append('1') + x.append('2') + x.walk() + x.undo() + x.save() + x.restore();
        for (int what = -1; what <= 9; what++) {
            sum += x.cell(30, what) + x.lampOf(0, what) + x.count(what) + x.ifPut(20, 3, what);
            sum += x.sees(0, 40 + what, what & 1) + x.stops(0, 40 + what) + x.exposure(63, what & 1);
            sum += x.way(63, what) + x.bestLamp(what) + x.darkIn() + (int) x.litShare();
        }
        return sum;
    }
}
