import com.sun.management.ThreadMXBean;
import java.lang.management.ManagementFactory;
import java.lang.reflect.Array;
import java.lang.reflect.Field;
import java.lang.reflect.Modifier;
import java.util.Collections;
import java.util.IdentityHashMap;
import java.util.Set;

/** All calls of a run live in one room, of some 600,000 objects and 7.3 million fields and elements. */
public final class RoomTest {
    private static final int OBJECTS = 600_000;
    private static final int ELEMENTS = 7_300_000;
    private static final long BYTES = 4L * ELEMENTS;

    private final Set<Object> counted = Collections.newSetFromMap(new IdentityHashMap<>());
    private int objects;
    private int elements;

    public static void main(String[] args) throws IllegalAccessException {
        Due due = new Due("one room");
        RoomTest room = new RoomTest();
        room.count(new StillText());
        due.is("objects of a new StillText: " + room.objects, room.objects <= OBJECTS, true);
        due.is("elements of a new StillText: " + room.elements, room.elements <= ELEMENTS, true);
        long made = bytesOfDearCalls();
        due.is("512 dear calls make " + made + " bytes", made < BYTES, true);
        due.finish();
    }

    /** Counts an object with all that it holds, what several parts hold once. */
    private void count(Object part) throws IllegalAccessException {
        if (!counted.add(part)) {
            return;
        }
        objects++;
        if (part.getClass().isArray()) {
            elements += Array.getLength(part);
            return;
        }
        if (part.getClass().getClassLoader() != StillText.class.getClassLoader()) {
            return;
        }
        for (Field field : part.getClass().getDeclaredFields()) {
            if (!Modifier.isStatic(field.getModifiers())) {
                elements++;
                field.setAccessible(true);
                Object held = field.get(part);
                if (held != null && !field.getType().isPrimitive()) {
                    count(held);
                }
            }
        }
    }

    /** Elements have four bytes or fewer here, so that more bytes than these would be too many elements. */
    private static long bytesOfDearCalls() {
        ThreadMXBean threads = (ThreadMXBean) ManagementFactory.getThreadMXBean();
        long self = Thread.currentThread().getId();
        Still still = Say.with("x " + "ab-c, ".repeat(39));
        still.set();
        long before = threads.getThreadAllocatedBytes(self);
        for (int n = 0; n < 54; n++) {
            still.measure(10 + n % 51, 1 + n % 3);
            still.set();
            still.rivers(1);
            still.mark(n % 80);
            still.feed(0x61616161, 0x20202020, 0x61616161, 0x20202020, 0x20202020);
            still.end(n % 2 == 0 ? 4 : 20);
            still.put(0);
            still.feed(0x61616161, 0x2d202020, 0, 0, 0);
            still.text();
        }
        return threads.getThreadAllocatedBytes(self) - before;
    }
}
