import java.lang.reflect.Array;
import java.lang.reflect.Field;
import java.lang.reflect.Modifier;
import java.util.IdentityHashMap;
import java.util.Map;

/** All calls of one run live in one room: what objects hold and what calls make is counted. */
public final class RoomTest {
    private static final int CALLS = 512;
    private static final long MOST_OBJECTS = 600_000;
    private static final long MOST_ELEMENTS = 7_300_000;

    public static void main(String[] args) throws ReflectiveOperationException {
        newObjects();
        dearCalls();
        Due.end();
    }

    /** A run may make new objects again and again, each of them used for its dearest call. */
    private static void newObjects() throws ReflectiveOperationException {
        RoundTours x = new RoundTours();
        long[] fresh = held(x);
        System.out.println("a new object: " + fresh[0] + " objects, " + fresh[1] + " elements");
        Due.that(fresh[0] * CALLS < MOST_OBJECTS / 2, "few objects in a new one");
        Due.that(fresh[1] * CALLS < MOST_ELEMENTS / 2, "few elements in a new one");
        x.begin(11);
        x.best();
        long[] used = held(x);
        System.out.println("behind best: " + used[0] + " objects, " + used[1] + " elements");
        Due.that(used[1] * (CALLS / 3) < MOST_ELEMENTS / 2, "few elements in a used one");
    }

    /** Rows are made once: many dear calls of one object make next to nothing. */
    private static void dearCalls() {
        com.sun.management.ThreadMXBean threads =
                (com.sun.management.ThreadMXBean) java.lang.management.ManagementFactory.getThreadMXBean();
        long thread = Thread.currentThread().getId();
        RoundTours x = new RoundTours();
        run(x);
        long before = threads.getThreadAllocatedBytes(thread);
        run(x);
        long made = threads.getThreadAllocatedBytes(thread) - before;
        System.out.println("a second run of dear calls makes " + made + " bytes");
        Due.that(made < 20_000, "calls make next to nothing");
    }

    private static void run(RoundTours x) {
        for (int i = 0; i < 20; i++) {
            x.begin(11);
            x.best();
            x.begin(20);
            x.match();
            x.round();
            x.build(i % 4, i % 20);
            x.better(2, 300);
            x.bound(100, 1000);
            x.flaw(0);
            for (int t = 0; t < 12; t++) {
                x.type(0x2020202020202020L, 8);
            }
            x.read();
        }
    }

    private static long[] held(Object root) throws ReflectiveOperationException {
        long[] count = new long[2];
        walk(root, new IdentityHashMap<>(), count);
        return count;
    }

    private static void walk(Object at, Map<Object, Object> seen, long[] count)
            throws ReflectiveOperationException {
        if (at == null || seen.put(at, at) != null) {
            return;
        }
        count[0]++;
        if (at.getClass().isArray()) {
            count[1] += Array.getLength(at);
            for (int i = 0; i < Array.getLength(at) && !at.getClass().getComponentType().isPrimitive(); i++) {
                walk(Array.get(at, i), seen, count);
            }
            return;
        }
        for (Field f : at.getClass().getDeclaredFields()) {
            if (!Modifier.isStatic(f.getModifiers())) {
                count[1]++;
                f.setAccessible(true);
                if (!f.getType().isPrimitive()) {
                    walk(f.get(at), seen, count);
                }
            }
        }
    }
}
