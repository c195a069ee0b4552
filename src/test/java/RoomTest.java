import java.lang.management.ManagementFactory;
import java.lang.reflect.Array;
import java.lang.reflect.Field;
import java.lang.reflect.Modifier;
import java.util.ArrayDeque;
import java.util.Deque;
import java.util.IdentityHashMap;
import java.util.Map;

/** The room that the dearest runs need: what an object keeps, and what 512 calls make. */
public final class RoomTest {
    private static final int CALLS = 512;
    private static long objects;
    private static long elements;

    public static void main(String[] args) throws IllegalAccessException {
        LargePages x = Desk.with(32, 32, 32, 32);
        count(x);
        System.out.println("a new object: " + objects + " objects, " + elements + " elements");
        Desk.due("a new object is small", objects < 100 && elements < 8000, true);
        x.day(60);
        x.image();
        x.day(60);
        count(x);
        System.out.println("a full one: " + objects + " objects, " + elements + " elements");
        Desk.due("a full one is small", objects < 1200 && elements < 60000, true);
        busy();
        Desk.close("RoomTest");
    }

    /** Texts are the one thing that calls make anew again and again. */
    private static void busy() {
        com.sun.management.ThreadMXBean bean =
                (com.sun.management.ThreadMXBean) ManagementFactory.getThreadMXBean();
        long id = Thread.currentThread().getId();
        LargePages x = new LargePages();
        int[] signs = {0x77616E74, 0x7320312B, 0x312B312B, 0x312B312B, 0x312B313B};
        long ahead = bean.getThreadAllocatedBytes(id);
        for (int i = 0; i < CALLS; i += 8) {
            x.object(32);
            x.feed(signs[0], signs[1], signs[2], signs[3], signs[4]);
            x.text();
            x.day(60);
            x.foretold(60, 2);
            x.years(i, 40);
            x.image();
            x.back();
        }
        long made = bean.getThreadAllocatedBytes(id) - ahead;
        System.out.println(CALLS + " calls made " + made + " bytes");
        Desk.due("calls make little", made < 2000000, true);
    }

    private static void count(Object root) throws IllegalAccessException {
        objects = 0;
        elements = 0;
        Map<Object, Object> seen = new IdentityHashMap<>();
        Deque<Object> open = new ArrayDeque<>();
        open.add(root);
        seen.put(root, root);
        while (!open.isEmpty()) {
            Object one = open.remove();
            objects++;
            if (one.getClass().isArray()) {
                elements += Array.getLength(one);
                for (int i = 0; !one.getClass().getComponentType().isPrimitive() && i < Array.getLength(one); i++) {
                    add(Array.get(one, i), seen, open);
                }
                continue;
            }
            for (Field f : one.getClass().getDeclaredFields()) {
                if (!Modifier.isStatic(f.getModifiers())) {
                    elements++;
                    f.setAccessible(true);
                    if (!f.getType().isPrimitive()) {
                        add(f.get(one), seen, open);
                    }
                }
            }
        }
    }

    private static void add(Object one, Map<Object, Object> seen, Deque<Object> open) {
        if (one != null && seen.put(one, one) == null) {
            open.add(one);
        }
    }
}
