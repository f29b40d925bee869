import java.lang.management.ManagementFactory;
import java.lang.reflect.Array;
import java.lang.reflect.Field;
import java.lang.reflect.Modifier;
import java.util.ArrayDeque;
import java.util.Collections;
import java.util.Deque;
import java.util.IdentityHashMap;
import java.util.Set;

/** What an object holds is small, no call makes anything, and the dearest calls end soon. */
public final class RoomTest {
    private static final int MOST_OBJECTS = 200;
    private static final int MOST_CELLS = 3000;
    private static final long MOST_BYTES = 2000;

    private static int wrong;

    public static void main(String[] args) throws IllegalAccessException {
        FallClocks x = busiest();
        measure(x);
        com.sun.management.ThreadMXBean threads =
            (com.sun.management.ThreadMXBean) ManagementFactory.getThreadMXBean();
        long self = Thread.currentThread().getId();
        useAll(x);
        long before = threads.getThreadAllocatedBytes(self);
        long sum = useAll(x);
        long made = threads.getThreadAllocatedBytes(self) - before;
        System.out.println("RoomTest: the calls made " + made + " bytes (sum of answers " + sum + ")");
        check(made <= MOST_BYTES, "a call makes objects: " + made + " bytes");
        if (wrong != 0) {
            System.exit(1);
        }
    }

    private static void check(boolean isRight, String complaint) {
        if (!isRight) {
            wrong++;
            System.out.println(complaint);
        }
    }

    private static FallClocks busiest() {
        FallClocks x = new FallClocks();
        for (int l = 0; l < 6; l++) {
            x.lot(l % 5, l % 3, 0);
        }
        String[] wishes = {"1a=999|1b=998", "1a=999|1b=998", "1a=999", "1a=999", "1b=999", "1c=999"};
        for (int b = 0; b < 6; b++) {
            x.buyer();
            for (int i = 0; i < wishes[b].length(); i++) {
                x.say(wishes[b].charAt(i));
            }
            x.wish(b);
        }
        for (int i = 0; i < 8; i++) {
            x.lesson(25 * i + 25);
        }
        return x;
    }

    private static void measure(FallClocks x) throws IllegalAccessException {
        Set<Object> seen = Collections.newSetFromMap(new IdentityHashMap<>());
        Deque<Object> open = new ArrayDeque<>();
        open.add(x);
        seen.add(x);
        long cells = 0;
        while (!open.isEmpty()) {
            Object object = open.remove();
            if (object.getClass().isArray()) {
                cells += Array.getLength(object);
                for (int i = 0; i < Array.getLength(object) && object instanceof Object[]; i++) {
                    note(Array.get(object, i), seen, open);
                }
            } else {
                for (Field field : object.getClass().getDeclaredFields()) {
                    if (!Modifier.isStatic(field.getModifiers())) {
                        cells++;
                        field.setAccessible(true);
                        if (!field.getType().isPrimitive()) {
                            note(field.get(object), seen, open);
                        }
                    }
                }
            }
        }
        System.out.println("RoomTest: " + seen.size() + " objects and arrays, " + cells + " fields and elements");
        check(seen.size() <= MOST_OBJECTS, "too many objects: " + seen.size());
        check(cells <= MOST_CELLS, "too many fields and elements: " + cells);
    }

    private static void note(Object object, Set<Object> seen, Deque<Object> open) {
        if (object != null && seen.add(object)) {
            open.add(object);
        }
    }

    private static long useAll(FallClocks x) {
        long sum = 0;
        for (int i = 0; i < 10; i++) {
            x.top(100 + i);
            sum += x.orders(0) + x.orders(25) + x.broken(0) + x.broken(1);
            for (int b = 0; b < 6; b++) {
                sum += x.cut(b, 0) + x.learn(b, 5, 0) + x.dealt(b) + x.likes(b, 0) + x.day(b, 0) + x.gain(b);
                sum += x.worth(b, 63) + x.why(b, 63) + x.sold(b, 0) + x.order(b) + x.raised(10) + x.missing();
                sum += x.say('1') + x.say('a') + x.say('=') + x.say('1') + x.fault() + x.wish(5) + x.alternative(b, 0, 1);
            }
        }
        return sum;
    }
}
