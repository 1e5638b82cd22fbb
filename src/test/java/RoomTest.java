import java.lang.management.ManagementFactory;
import java.lang.reflect.Array;
import java.lang.reflect.Field;
import java.lang.reflect.Modifier;
import java.util.ArrayDeque;
import java.util.Deque;
import java.util.IdentityHashMap;
import java.util.Map;

/** All calls of a run live in one room: an object is small, and its calls make nothing. */
public final class RoomTest {
    static final int OBJECTS = 100, PARTS = 6500, CALL_BYTES = 2048;

    static int wrong = 0;
    static long sum = 0;

    static void must(boolean holds, String what) {
        if (!holds) {
            wrong++;
            System.out.println("too much: " + what);
        }
    }

    public static void main(String[] args) throws Exception {
        MovingThings x = new MovingThings();
        long[] room = room(x);
        System.out.println("a new object: " + room[0] + " objects and arrays, " + room[1] + " fields and elements");
        must(room[0] <= OBJECTS, room[0] + " objects");
        must(room[1] <= PARTS, room[1] + " fields and elements");
        callAll(x);
        com.sun.management.ThreadMXBean bean = (com.sun.management.ThreadMXBean) ManagementFactory.getThreadMXBean();
        long id = Thread.currentThread().getId();
        bean.getThreadAllocatedBytes(id);
        long before = bean.getThreadAllocatedBytes(id);
        callAll(x);
        long made = bean.getThreadAllocatedBytes(id) - before;
        System.out.println("a second run of calls made " + made + " bytes (" + sum + ")");
        must(made <= CALL_BYTES, made + " bytes made by calls");
        if (wrong != 0) {
            System.exit(1);
        }
    }

    static void callAll(MovingThings x) {
        for (int t = 0; t < 10; t++) {
            for (int i = 0; i < 24; i++) {
                sum += x.say(t, 8 * i, (37 * i + 11 * t) % 100, (53 * i + 29 * t) % 100);
            }
            sum += x.kind(t, 1) + x.at(t, 5, true, true) + x.there(t, 5) + x.row(t, 3, 1) + x.mended();
            sum += x.inside(0, 50, 0, 50, 5) + x.who(0, 50, 0, 50, 5, 1) + x.visits(t, 0, 50, 0, 50);
            sum += x.visit(t, 0, 50, 0, 50, 1, true) + x.far(t, 3, 77, true) + x.nearest(t, 77, 3);
            sum += x.meetings(t, 3, 50) + x.longest(t, 3, 50, true) + x.pages(1) + x.pages(3) + x.size();
            sum += x.opens(0, 50, 0, 50, 0, 99, true) + x.thin(t, 30) + x.kept(t, 30, 3) + x.thinned(t, 40);
            sum += x.stand(0, 50, 0, 50) + x.pass(1) + x.changes(0, 8) + x.change(0, 8, 0) + x.still(0, t);
            sum += x.load(3) + x.share(4) + x.gets(4, 2) + x.blur(t, 0, 7, 3, true) + x.together(t, 0, 7, 3, 5, 0);
            sum += x.count(0) + x.count(1) + x.count(2) + x.forget(t, 0) + x.size();
        }
    }

    static long[] room(Object start) throws IllegalAccessException {
        long objects = 0, parts = 0;
        Map<Object, Boolean> seen = new IdentityHashMap<>();
        Deque<Object> open = new ArrayDeque<>();
        open.add(start);
        seen.put(start, true);
        while (!open.isEmpty()) {
            Object one = open.remove();
            objects++;
            if (one.getClass().isArray()) {
                parts += Array.getLength(one);
                for (int i = 0; !one.getClass().getComponentType().isPrimitive() && i < Array.getLength(one); i++) {
                    reach(Array.get(one, i), seen, open);
                }
                continue;
            }
            for (Field f : one.getClass().getDeclaredFields()) {
                if (!Modifier.isStatic(f.getModifiers())) {
                    parts++;
                    f.setAccessible(true);
                    if (!f.getType().isPrimitive()) {
                        reach(f.get(one), seen, open);
                    }
                }
            }
        }
        return new long[] {objects, parts};
    }

    static void reach(Object next, Map<Object, Boolean> seen, Deque<Object> open) {
        if (next != null && seen.put(next, true) == null) {
            open.add(next);
        }
    }
}
