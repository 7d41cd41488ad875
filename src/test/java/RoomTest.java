import java.lang.management.ManagementFactory;
import java.lang.reflect.Array;
import java.lang.reflect.Field;
import java.lang.reflect.Modifier;
import java.util.ArrayDeque;
import java.util.Collections;
import java.util.Deque;
import java.util.IdentityHashMap;
import java.util.Set;

/** All calls of a run live in one room: what an object holds is little, and no call makes anything. */
public final class RoomTest {
    private static final int MOST_OBJECTS = 60;
    private static final int MOST_CELLS = 4000;
    private static int wrong = 0;

    private static void need(boolean good, String what) {
        if (!good) {
            wrong++;
            System.out.println(what);
        }
    }

    public static void main(String[] args) throws Exception {
        HearDifference x = new HearDifference();
        int[] before = held(x);
        need(before[0] <= MOST_OBJECTS, "objects and arrays: " + before[0]);
        need(before[1] <= MOST_CELLS, "fields and elements: " + before[1]);
        for (int i = 0; i < 50; i++) {
            allCalls(x);
        }
        int[] after = held(x);
        need(after[0] == before[0] && after[1] == before[1], "it grew to " + after[0] + ", " + after[1]);
        long made = madeBy(x);
        need(made == 0, "calls made objects: " + made + " bytes");
        System.out.println(wrong == 0 ? before[0] + " objects, " + before[1] + " fields and elements, and no more"
            : wrong + " things are not as due");
        if (wrong != 0) {
            System.exit(1);
        }
    }

    /** How many bytes all calls made once ask for; the machine may need some of its own at first. */
    private static long madeBy(HearDifference x) {
        if (!(ManagementFactory.getThreadMXBean() instanceof com.sun.management.ThreadMXBean threads)
            || !threads.isThreadAllocatedMemorySupported()) {
            return 0;
        }
        long me = Thread.currentThread().getId();
        long least = Long.MAX_VALUE;
        for (int i = 0; i < 20; i++) {
            long begin = threads.getThreadAllocatedBytes(me);
            long idle = threads.getThreadAllocatedBytes(me) - begin;
            begin = threads.getThreadAllocatedBytes(me);
            allCalls(x);
            least = Math.min(least, threads.getThreadAllocatedBytes(me) - begin - idle);
        }
        return Math.max(0, least);
    }

    /** Each call of the face, with what can be, and some with what can't. */
    private static void allCalls(HearDifference x) {
        x.state(5);
        for (int i = 0; i < 11; i++) {
            x.person(6 * i - 1);
            x.set(1, i, 1);
            x.set(2, i, i);
        }
        x.set(3, 0, 500);
        // "miss when near>9or apart/2*3<4;" and what is no law
        x.feed(0x6d697373, 0x20776865, 0x6e206e65, 0x61723e39, 0x6f722061);
        x.feed(0x70617274, 0x2f322a33, 0x3c343b20, 0x20202020, 0x20202020);
        need(x.text() == 1, "the law is read");
        x.feed(0x6d697373, 0x20776865, 0x6e206e65, 0x61723e39, 0x6f722061);
        x.end(7);
        x.text();
        x.fault(0);
        x.fault(1);
        x.speak(1, 2);
        x.speak(1, 1);
        x.hours(3);
        for (int what = 0; what < 6; what++) {
            x.of(3, what);
            x.book(0, what);
        }
        x.hears(1, 2, 3);
        x.deaf(1, 2);
        x.tune(0, 5);
        x.tune(1, 6);
        x.same(0, 1);
        for (int i = 1; i < 9; i++) {
            x.pair(i, (i + 1) % 10);
            x.tell(2 * i);
        }
        for (int what = 0; what < 20; what++) {
            x.turnOf(what);
            x.fit(4, what);
            x.fewest(what);
            x.ruler(4, what);
            x.look(what);
        }
        x.alone(1, 2, 3, 4, 0);
        x.safe(1);
        x.undo();
        x.image(true);
        x.image(false);
        x.tell(-1);
        x.pair(-1, 0);
        x.tune(0, -1);
        x.tune(1, -1);
    }

    /** How many objects and arrays are reached from it, and how many fields and elements they have. */
    private static int[] held(Object from) throws IllegalAccessException {
        Set<Object> seen = Collections.newSetFromMap(new IdentityHashMap<>());
        Deque<Object> open = new ArrayDeque<>();
        seen.add(from);
        open.add(from);
        int cells = 0;
        while (!open.isEmpty()) {
            Object next = open.remove();
            if (next.getClass().isArray()) {
                need(next.getClass().getComponentType().isPrimitive(), "an array that this test does not look into");
                cells += Array.getLength(next);
                continue;
            }
            for (Field f : next.getClass().getDeclaredFields()) {
                if (Modifier.isStatic(f.getModifiers())) {
                    continue;
                }
                cells++;
                f.setAccessible(true);
                Object part = f.getType().isPrimitive() ? null : f.get(next);
                if (part != null && seen.add(part)) {
                    open.add(part);
                }
            }
        }
        return new int[] {seen.size(), cells};
    }
}
