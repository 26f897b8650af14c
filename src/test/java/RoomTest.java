import com.sun.management.ThreadMXBean;
import java.lang.management.ManagementFactory;
import java.lang.reflect.Array;
import java.lang.reflect.Field;
import java.lang.reflect.Modifier;
import java.util.ArrayDeque;
import java.util.Collections;
import java.util.Deque;
import java.util.IdentityHashMap;
import java.util.Set;

/** What a house takes of the room in which all calls of a run live: rows made once, and nothing by its calls. */
public final class RoomTest {
    /** A hundredth of the room, so that a run may make houses anew. */
    private static final int OBJECTS_MOST = 6_000;
    private static final int ELEMENTS_MOST = 73_000;
    private static final int ROUNDS = 12;
    private static final ThreadMXBean THREADS = (ThreadMXBean) ManagementFactory.getThreadMXBean();
    private static final String FULL = "burst 0 63;burst 1 63;burst 2 63;burst 3 63;burst 4 63;burst 5 63;slot;fan 0 63;fan 1 63;"
        + "cell 2 0;cell 3 0;cell 4 0;cell 5 0;slot;cell 2 1;cell 3 0;cell 4 0;cell 5 1;" + "idle 9;".repeat(20);

    private RoomTest() {
    }

    public static void main(String[] args) {
        Due due = new Due("RoomTest");
        due.fresh("a house");
        holdsLittle(due);
        due.tell(0, -1, "ports 6;rounds 4;pointer 5;");
        due.tell(1, -1, FULL);
        due.tell(2, -1, "match 0 5 5;apart 1 3 3;");
        due.same("stop", due.house.stop(0, 0), 38);
        // what is made at the first use of a class counts for nothing
        for (int n = 0; n < ROUNDS; n++) {
            bytesOfCalls(due.house);
            bytesOfNothing();
        }
        due.same("bytes that calls took", bytesOfCalls(due.house), bytesOfNothing());
        holdsLittle(due);
        due.end();
    }

    private static void holdsLittle(Due due) {
        Set<Object> seen = Collections.newSetFromMap(new IdentityHashMap<>());
        long elements = elementsOf(due.house, seen);
        due.same(seen.size() + " objects are few", seen.size() <= OBJECTS_MOST, true);
        due.same(elements + " fields and elements are few", elements <= ELEMENTS_MOST, true);
    }

    /** Fields and elements of all that is reached from an object. */
    private static long elementsOf(Object from, Set<Object> seen) {
        Deque<Object> open = new ArrayDeque<>();
        open.add(from);
        seen.add(from);
        long elements = 0;
        while (!open.isEmpty()) {
            Object object = open.remove();
            if (object.getClass().isArray()) {
                int size = Array.getLength(object);
                elements += size;
                for (int k = 0; k < size && !object.getClass().getComponentType().isPrimitive(); k++) {
                    reach(Array.get(object, k), seen, open);
                }
                continue;
            }
            for (Field field : object.getClass().getDeclaredFields()) {
                if (!Modifier.isStatic(field.getModifiers())) {
                    elements++;
                    if (!field.getType().isPrimitive()) {
                        reach(valueOf(field, object), seen, open);
                    }
                }
            }
        }
        return elements;
    }

    private static Object valueOf(Field field, Object object) {
        try {
            field.setAccessible(true);
            return field.get(object);
        } catch (IllegalAccessException shut) {
            throw new IllegalStateException(shut);
        }
    }

    private static void reach(Object object, Set<Object> seen, Deque<Object> open) {
        if (object != null && seen.add(object)) {
            open.add(object);
        }
    }

    private static long bytesNow() {
        return THREADS.getThreadAllocatedBytes(Thread.currentThread().getId());
    }

    private static long bytesOfNothing() {
        long before = bytesNow();
        return bytesNow() - before;
    }

    private static long bytesOfCalls(CrossbarHouse house) {
        long before = bytesNow();
        callAll(house);
        return bytesNow() - before;
    }

    private static int callAll(CrossbarHouse house) {
        int sum = house.count(0) + house.stop(0, 0) + house.crossbar(0, 0) + house.fault(0);
        for (int what = -1; what < 20; what++) {
            sum += house.state(0, 0, 38, 5 * what) + house.judge(0, 0, 7, what) + house.after(0, 0, what)
                + house.cell(0, 0, what, what) + house.flow(0, 0, what, what % 3) + house.mimic(0, 0, what, what % 3)
                + house.deed(0, what, what % 3) + house.fact(0, what, what % 4) + house.fits(0, 0, 0, what)
                + house.full(0, what, what) + house.rhythm(0, what % 4) + house.drawn(0, what, 60, what);
        }
        // "slot;" alone, and a FAULT, each in the place of a further traffic that is taken back by the image
        boolean is = house.image(0);
        sum += house.feed(0x736c6f74, 0x3b000000, 0, 0, 0) + house.text(1, -1) + house.end(0);
        sum += house.feed(0x736c6f74, 0x3b000000, 0, 0, 0) + house.end(5) + house.text(1, -1);
        return sum + (is && house.again(0) ? 1 : 0);
    }
}
