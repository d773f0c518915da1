import com.sun.management.ThreadMXBean;
import java.lang.management.ManagementFactory;
import java.lang.reflect.Array;
import java.lang.reflect.Field;
import java.lang.reflect.Modifier;

/** The room: what an object holds is made with it, and no call makes anything. */
public final class RoomTest {
    private static final Due due = new Due();
    private static long objects = 0;
    private static long elements = 0;

    public static void main(String[] args) throws Exception {
        measure(new OneSelf());
        System.out.println("an object: " + objects + " objects and arrays, " + elements + " fields and elements");
        // 512 new objects in one run would still fit
        due.isTrue("few objects", objects * 512 < 600_000 / 4);
        due.isTrue("few elements", elements * 512 < 7_300_000);
        for (int k = 0; k < 20; k++) {
            run(fullDesk().x);
        }
        Desk d = fullDesk();
        ThreadMXBean threads = (ThreadMXBean) ManagementFactory.getThreadMXBean();
        long before = threads.getCurrentThreadAllocatedBytes();
        run(d.x);
        long made = threads.getCurrentThreadAllocatedBytes() - before;
        due.isTrue("calls make nothing: " + made + " bytes", made < 4096);
        due.end();
    }

    private static void measure(Object x) throws Exception {
        objects++;
        for (Field f : x.getClass().getDeclaredFields()) {
            if (Modifier.isStatic(f.getModifiers())) continue;
            elements++;
            if (f.getType().isPrimitive()) continue;
            f.setAccessible(true);
            Object part = f.get(x);
            if (f.getType().isArray()) {
                objects++;
                elements += Array.getLength(part);
            } else {
                // what several parts share is counted once for each, which is no harm
                measure(part);
            }
        }
    }

    private static Desk fullDesk() {
        Desk d = new Desk();
        for (int k = 0; k < 36; k++) {
            d.row(k < 10 ? 0 : k < 20 ? 1 : 2, k % 2 == 0 ? "abcdefghij" : "abcdefghji", 1800 + k / 9, k % 3, -1);
        }
        d.sounds("a=1;bcd=0;e=2");
        d.x.sheet(0, 0, 40);
        return d;
    }

    private static void run(OneSelf x) {
        for (int k = 0; k < 12; k++) {
            x.digest();
            x.keys();
            x.laid(0, 1, 1);
            x.mate(k, 1);
            x.bundles(k % 3);
            x.torn(k);
            x.cut(k, k + 1);
            x.check(k, k + 1, true);
            x.bound(0);
            x.learnt(true, 0, 1);
            x.odds(0, k, 0);
            x.belief(0, k, 1, 100);
            x.type('f');
            x.wipe();
            x.write(k, 0);
            x.copy(0, 0, 0, 1, 3);
            x.sheet(1, 0, k);
            x.put(0, 0, 0, 'a');
            x.row(0, 0, 0, 1, -1, -1, -1);
            x.line(20 - k);
            x.asOf(0);
        }
    }
}
