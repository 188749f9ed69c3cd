import com.sun.management.ThreadMXBean;
import java.lang.management.ManagementFactory;

/** An object's rows are small, and no call makes any of its own. */
public final class RoomTest {
    private static final long OBJECT_BYTES = 40_000;
    private static final long CALL_BYTES = 2_000;
    private static final ThreadMXBean THREADS =
            (ThreadMXBean) ManagementFactory.getThreadMXBean();

    public static void main(String[] args) {
        // The first round loads what the machine itself wants to have loaded.
        for (int round = 0; round < 3; round++) {
            long before = THREADS.getCurrentThreadAllocatedBytes();
            IceInherited ice = new IceInherited();
            long made = THREADS.getCurrentThreadAllocatedBytes();
            callAll(ice);
            long called = THREADS.getCurrentThreadAllocatedBytes();
            if (round > 0) {
                Due.dueTrue("an object of " + (made - before) + " bytes",
                        made - before < OBJECT_BYTES);
                Due.dueTrue("calls of " + (called - made) + " bytes", called - made < CALL_BYTES);
            }
        }
        Due.end();
    }

    private static void callAll(IceInherited ice) {
        String text = "r7,7;k9,2;k3,3;k20,1;f0,0,20;f1,21,48;i9;d24;d15;l1;";
        for (int i = 0; i < text.length(); i++) {
            ice.write(text.charAt(i));
        }
        for (int i = 0; i < 15; i++) {
            ice.fault();
            ice.lay();
            ice.saw(i);
            ice.sell(i + 21, 2);
            ice.pass(1);
            ice.undo();
            ice.keep();
            ice.back();
            for (int what = 0; what < 6; what++) {
                ice.cell(30, what);
                ice.family(1, what);
                ice.count(what);
            }
            ice.behind(60, 4, 0);
            ice.landless(0);
            ice.falls(4, 1);
            ice.toll(0, 1, 0, 48);
            ice.wedding(1, 1, 1, 0);
            ice.straw(1, 0, 0, 200);
            ice.split(1, 0);
            ice.drill(3, 9);
            ice.colds(0);
            ice.forget();
            ice.across();
            ice.shares(30, 1, 0);
            ice.winter(5, 60, 0);
            ice.cold(7);
        }
        ice.wipe();
    }
}
