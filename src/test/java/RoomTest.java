import java.lang.management.ManagementFactory;
import java.lang.reflect.Array;
import java.lang.reflect.Field;
import java.lang.reflect.Modifier;
import java.util.ArrayDeque;
import java.util.Collections;
import java.util.Deque;
import java.util.IdentityHashMap;
import java.util.Set;

/** How much room an object takes with its images kept, and that its calls make nothing else. */
public final class RoomTest {
    private static final Check CHECK = new Check("RoomTest");
    private static final int MOST_OBJECTS = 400;
    private static final int MOST_FIELDS = 10000;
    private static final String TEXT = "office rooms 3 in 0 at 9;" + "official room 0 from 0 to 9 days 31 fades 1;".repeat(3)
            + "official room 1 from 2 to 7 days 21 lunch 4;".repeat(5) + "way 0 1 9; way 1 2 1; needs 1 0; needs 2 1;"
            + "bars 4 0; bars 0 3; leave 5 from 0 to 3; permit 2 4 7;";

    public static void main(String[] args) {
        StampOrder x = Check.told(TEXT);
        CHECK.due("officials", x.count(0), 8);
        keepAll(x);
        callAll(x);
        long least = Long.MAX_VALUE;
        for (int i = 0; i < 5 && least > 0; i++) {
            least = Math.min(least, bytesMade(x));
        }
        CHECK.due("bytes that calls make", least, 0);
        size(x);
        CHECK.close();
    }

    /** The machine itself may make something now and then: of several goes the least counts. */
    private static long bytesMade(StampOrder x) {
        com.sun.management.ThreadMXBean threads =
                (com.sun.management.ThreadMXBean) ManagementFactory.getThreadMXBean();
        long before = threads.getCurrentThreadAllocatedBytes();
        long between = threads.getCurrentThreadAllocatedBytes();
        for (int i = 0; i < 20; i++) {
            keepAll(x);
            callAll(x);
        }
        long after = threads.getCurrentThreadAllocatedBytes();
        return after - between - (between - before);
    }

    private static void keepAll(StampOrder x) {
        for (int k = 0; k < 3; k++) {
            x.keep(k);
            x.back(k);
        }
    }

    /** Each method once at least, those that search twice: from another HOUR. */
    private static void callAll(StampOrder x) {
        x.feed(1, 2, 3, 4, 5);
        x.end(1);
        x.office();
        x.fault(0);
        x.permit();
        x.row(0, 3, 60);
        x.write(0, 59, 1);
        x.paste(0, 0, 0, 1, 59);
        x.row(1, 0, 1);
        x.ask(0, 5, 1, 1);
        x.ask(0, 5, 1, 0);
        x.leave(0, 3, 3);
        x.leave(0, -1, -1);
        x.wants(x.wants(3));
        x.start(0);
        callRows(x);
        x.go(1);
        x.waits(7);
        callRows(x);
        x.undo();
        x.anew();
        for (int i = 0; i < 9; i++) {
            callOf(x, i);
        }
        for (int n = 1; n <= 9; n++) {
            x.queue(1, n);
        }
    }

    private static void callRows(StampOrder x) {
        x.soonest();
        x.fewest();
        x.least();
        x.cheapest();
        x.whom();
        x.ways();
        x.always(0);
        x.fake();
        x.sets();
        x.never();
        x.ring();
        x.loose();
        x.parted();
        x.can();
        x.now();
        x.room();
        x.held();
        x.shoes();
        x.paid();
        x.done();
    }

    private static void callOf(StampOrder x, int i) {
        x.official(i, i);
        x.asks(i, 0);
        x.asked(i, 1);
        x.open(i, 5);
        x.opens(i, 5);
        x.week(i);
        x.walk(0, i);
        x.until(i);
        x.when(i);
        x.why(i);
        x.led(i);
        x.step(i);
        x.tread(i);
        x.slack(i);
        x.forged(i);
        x.possible(i);
        x.depth(i);
        x.orders(i);
        x.loosely(i);
        x.judge(i);
        x.bribed(i);
        x.run(i);
        x.served(i, 400);
        x.chair(i);
        x.blind(i);
        x.tries(i);
        x.luck(i, 20);
        x.worth(i, 20, 0);
        x.count(i);
    }

    /** All that can be reached from an object. */
    private static void size(Object first) {
        Set<Object> seen = Collections.newSetFromMap(new IdentityHashMap<>());
        Deque<Object> left = new ArrayDeque<>();
        left.add(first);
        seen.add(first);
        int fields = 0;
        while (!left.isEmpty()) {
            Object o = left.poll();
            fields += o.getClass().isArray() ? takeElements(o, seen, left) : takeFields(o, seen, left);
        }
        System.out.println("RoomTest: " + seen.size() + " objects and arrays, " + fields + " fields and elements");
        CHECK.due("few objects", seen.size() <= MOST_OBJECTS ? 1 : 0, 1);
        CHECK.due("few fields", fields <= MOST_FIELDS ? 1 : 0, 1);
    }

    private static int takeElements(Object array, Set<Object> seen, Deque<Object> left) {
        boolean numbers = array.getClass().getComponentType().isPrimitive();
        for (int i = 0; !numbers && i < Array.getLength(array); i++) {
            take(Array.get(array, i), seen, left);
        }
        return Array.getLength(array);
    }

    private static int takeFields(Object o, Set<Object> seen, Deque<Object> left) {
        int fields = 0;
        for (Field field : o.getClass().getDeclaredFields()) {
            if (!Modifier.isStatic(field.getModifiers())) {
                fields++;
                if (!field.getType().isPrimitive()) {
                    try {
                        field.setAccessible(true);
                        take(field.get(o), seen, left);
                    } catch (IllegalAccessException e) {
                        throw new IllegalStateException(e);
                    }
                }
            }
        }
        return fields;
    }

    private static void take(Object o, Set<Object> seen, Deque<Object> left) {
        if (o != null && seen.add(o)) {
            left.add(o);
        }
    }
}
