import com.sun.management.ThreadMXBean;
import java.lang.management.ManagementFactory;
import java.lang.reflect.Array;
import java.lang.reflect.Field;
import java.lang.reflect.Modifier;
import java.util.ArrayDeque;
import java.util.Collections;
import java.util.Deque;
import java.util.IdentityHashMap;
import java.util.Set;

/**
 * All calls of a run live in one room: only the constructor makes objects, the calls make none. So the room of a run is
 * that of its new objects, which is counted here by objects (arrays, too) and by fields and elements.
 */
public final class RoomTest {
    private static final ThreadMXBean THREADS = (ThreadMXBean) ManagementFactory.getThreadMXBean();
    private static final int MOST_OBJECTS = 100, MOST_PLACES = 1_000;
    private static int wrong = 0;

    public static void main(String[] args) throws IllegalAccessException {
        // The first rounds let the machine load what it needs; the last one is counted.
        long used = 0;
        for (int round = 0; round < 5; round++) {
            RindTalk x = new RindTalk();
            long start = bytes();
            use(x);
            used = bytes() - start;
        }
        need(used < 256, "some 430 calls take " + used + " bytes");
        RindTalk x = new RindTalk();
        String fresh = countOf(x);
        use(x);
        need(fresh.equals(countOf(x)), "a new object has " + fresh + ", a used one " + countOf(x));
        System.out.println("a new object has " + fresh + "; its calls take " + used + " bytes");
        if (wrong != 0) {
            System.exit(1);
        }
    }

    private static long bytes() {
        return THREADS.getThreadAllocatedBytes(Thread.currentThread().getId());
    }

    private static void need(boolean holds, String what) {
        if (!holds) {
            wrong++;
            System.out.println(what);
        }
    }

    /** All that can be reached from an object. */
    private static String countOf(Object first) throws IllegalAccessException {
        Set<Object> seen = Collections.newSetFromMap(new IdentityHashMap<>());
        Deque<Object> waiting = new ArrayDeque<>();
        waiting.add(first);
        seen.add(first);
        int places = 0;
        while (!waiting.isEmpty()) {
            Object one = waiting.remove();
            if (one.getClass().isArray()) {
                places += Array.getLength(one);
                for (int i = 0; i < Array.getLength(one) && !one.getClass().getComponentType().isPrimitive(); i++) {
                    reach(Array.get(one, i), seen, waiting);
                }
                continue;
            }
            for (Field field : one.getClass().getDeclaredFields()) {
                if (!Modifier.isStatic(field.getModifiers())) {
                    places++;
                    field.setAccessible(true);
                    if (!field.getType().isPrimitive()) {
                        reach(field.get(one), seen, waiting);
                    }
                }
            }
        }
        need(seen.size() <= MOST_OBJECTS, seen.size() + " objects");
        need(places <= MOST_PLACES, places + " fields and elements");
        return seen.size() + " objects and arrays, " + places + " fields and elements";
    }

    private static void reach(Object one, Set<Object> seen, Deque<Object> waiting) {
        if (one != null && seen.add(one)) {
            waiting.add(one);
        }
    }

    private static final String TEXT = "q5,c00,w10,m20,c30;091;192;293;394;495;096;197;290";

    /** Each call of the face, in ways that are answered, refused and come to faults. */
    private static void use(RindTalk x) {
        x.sheet(0, 0, 50);
        for (int i = 0; i < 50; i++) {
            x.put(0, i, TEXT.charAt(i));
        }
        for (int round = 0; round < 4; round++) {
            x.dairy(0, 0, 0, 50);
            x.dairy(0, 0, 0, 49);
            x.dairy(0, 1, 0, 49);
            x.sheet(1, 2, 60);
            x.sheet(1, 2, -1);
            x.put(1, 60, 0);
            x.move(1, 2, 3);
            x.move(1, 8, 3);
            x.undo(0);
            x.wall(0, 7);
            x.reading(0, 0, 7);
            x.reading(1, 0, 7);
            x.back(1);
            for (int k = 0; k < 4; k++) {
                ask(x, k);
            }
            x.common();
            x.cuts(1, 2, 0, 20, 1);
            x.copy(1, 0, 1, 10, 50);
            x.copy(0, 0, 1, 0, 0);
            x.trace();
            x.fault();
            x.many(4);
            x.lose(1);
        }
    }

    private static void ask(RindTalk x, int k) {
        x.ofCheese(k, 3);
        x.ofTalk(k, 2);
        x.where(k, 7);
        x.heard(k);
        x.layer(k, 1);
        x.deep(k, 1);
        x.spare(255, 0, k);
        x.shelve(k);
        x.alone(k);
        x.odds(k, 7, 0);
        x.louds(k);
        x.words(k);
        x.kinds(k);
        x.lay(k);
        x.cell(k, k, k);
        x.tell(k);
        x.tap(k);
        x.as(k, 2 - k % 3);
    }
}
