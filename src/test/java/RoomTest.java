import java.lang.management.ManagementFactory;
import java.lang.reflect.Array;
import java.lang.reflect.Field;
import java.lang.reflect.Modifier;
import java.util.ArrayDeque;
import java.util.Collections;
import java.util.Deque;
import java.util.IdentityHashMap;
import java.util.Set;

/** What an object takes of the one room that all calls of a run live in: little, and calls take nothing. */
public final class RoomTest {
    private static final int MOST_OBJECTS = 200, MOST_CELLS = 4000, CALLS = 20000;
    private static final int LEAST_OBJECT = 16;
    private static final Check CHECK = new Check();

    public static void main(String[] args) throws IllegalAccessException {
        WakingLayers x = CHECK.told("kind;kind under 0;thing 1 7;thing 0 9;layer span 1;layer thing 2;layer ever 0;",
            "layer ask 3 0>0 need 0;layer ask 3 1<2 bar 3 need 2;",
            "body plain 0 0 instead add 1;body 0 0 0 before wake 1 call 1 1;body 1 1 0 around proceed proceed;",
            "body 2 0 1 behind add 2;body 3 0 0 behind own;body 4 0 1 around call 0 2 proceed;");
        look(x);
        callAll(x, CALLS);
        com.sun.management.ThreadMXBean threads = (com.sun.management.ThreadMXBean) ManagementFactory.getThreadMXBean();
        long ahead = threads.getCurrentThreadAllocatedBytes();
        callAll(x, CALLS);
        long taken = threads.getCurrentThreadAllocatedBytes() - ahead;
        CHECK.due("calls made objects (" + taken + " bytes)", taken < (long) LEAST_OBJECT * CALLS ? 0 : 1, 0);
        CHECK.finish();
    }

    private static void look(WakingLayers x) throws IllegalAccessException {
        Set<Object> seen = Collections.newSetFromMap(new IdentityHashMap<>());
        Deque<Object> left = new ArrayDeque<>();
        left.add(x);
        int cells = 0;
        while (!left.isEmpty()) {
            Object one = left.remove();
            if (seen.add(one)) {
                cells += one.getClass().isArray() ? elements(one, left) : fields(one, left);
            }
        }
        System.out.println(seen.size() + " objects, " + cells + " fields and elements");
        CHECK.due("few objects", seen.size() <= MOST_OBJECTS ? 1 : 0, 1);
        CHECK.due("few fields and elements", cells <= MOST_CELLS ? 1 : 0, 1);
    }

    private static int elements(Object array, Deque<Object> left) {
        if (!array.getClass().getComponentType().isPrimitive()) {
            for (Object one : (Object[]) array) {
                left.add(one);
            }
        }
        return Array.getLength(array);
    }

    private static int fields(Object one, Deque<Object> left) throws IllegalAccessException {
        int count = 0;
        for (Field field : one.getClass().getDeclaredFields()) {
            if (!Modifier.isStatic(field.getModifiers())) {
                count++;
                field.setAccessible(true);
                if (!field.getType().isPrimitive() && field.get(one) != null) {
                    left.add(field.get(one));
                }
            }
        }
        return count;
    }

    /** Every call of the face, so often. */
    private static void callAll(WakingLayers x, int times) {
        for (int n = 0; n < times; n++) {
            x.sheet(n & 7, n % 3, n % 41);
            x.set(n & 7, 0, n);
            x.copy(n & 7, 0, n & 3, 0, 1);
            x.facts(n & 7, 0, 1);
            x.drop(n + 1 & 7);
            x.feed(0x6b696e643bL, 5);
            x.read();
            x.fault();
            x.layer(n & 7, n % 6);
            x.fact(n & 3, n % 10);
            x.wake(0, WakingLayers.NONE);
            x.wake(1, 0);
            x.point();
            x.row(0, 0, -1);
            x.call(0, 0, n);
            x.ran(0);
            x.sleep(n & 1);
            x.together(1, -1);
            x.same(3, 0, 0, n, 1);
            x.kind(n & 7);
            x.as(n & 7, n % 6);
            x.ask(n & 7, n & 1);
            x.trace(0);
            x.count(n & 7);
            x.status();
        }
    }
}
