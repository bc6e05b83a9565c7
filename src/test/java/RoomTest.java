import java.lang.management.ManagementFactory;
import java.lang.reflect.Array;
import java.lang.reflect.Field;
import java.lang.reflect.Modifier;
import java.util.ArrayDeque;
import java.util.Collections;
import java.util.Deque;
import java.util.IdentityHashMap;
import java.util.Set;

/** All calls of a run live in one room: an object is small, and its calls make nothing. */
public final class RoomTest {
    private static final int MOST_OBJECTS = 200;
    private static final int MOST_FIELDS = 10_000;
    private static int wrong = 0;

    private static void check(boolean holds, String what) {
        if (!holds) {
            wrong++;
            System.out.println("ROOM: " + what);
        }
    }

    public static void main(String[] args) throws Exception {
        measure(new StrengthenFirst());
        StrengthenFirst full = full();
        callAll(full);
        measure(full);
        long before = allocated();
        for (int i = 0; i < 20; i++) {
            callAll(full);
        }
        long made = allocated() - before;
        check(made < 10_000, "calls made " + made + " bytes");
        if (wrong != 0) {
            System.exit(1);
        }
        System.out.println("the room is kept");
    }

    private static long allocated() {
        var threads = (com.sun.management.ThreadMXBean) ManagementFactory.getThreadMXBean();
        return threads.getThreadAllocatedBytes(Thread.currentThread().getId());
    }

    private static void measure(Object root) throws IllegalAccessException {
        Set<Object> seen = Collections.newSetFromMap(new IdentityHashMap<>());
        Deque<Object> open = new ArrayDeque<>();
        open.add(root);
        seen.add(root);
        int fields = 0;
        while (!open.isEmpty()) {
            Object at = open.poll();
            if (at.getClass().isArray()) {
                fields += Array.getLength(at);
                for (int i = 0; i < Array.getLength(at) && !at.getClass().getComponentType().isPrimitive(); i++) {
                    reach(Array.get(at, i), seen, open);
                }
                continue;
            }
            for (Field field : at.getClass().getDeclaredFields()) {
                if (!Modifier.isStatic(field.getModifiers())) {
                    fields++;
                    field.setAccessible(true);
                    if (!field.getType().isPrimitive()) {
                        reach(field.get(at), seen, open);
                    }
                }
            }
        }
        check(seen.size() <= MOST_OBJECTS, "an object is of " + seen.size() + " objects");
        check(fields <= MOST_FIELDS, "an object has " + fields + " fields and elements");
    }

    private static void reach(Object next, Set<Object> seen, Deque<Object> open) {
        if (next != null && seen.add(next)) {
            open.add(next);
        }
    }

    private static StrengthenFirst full() {
        StrengthenFirst x = new StrengthenFirst();
        for (int i = 0; i < 12; i++) {
            x.street(i % 8, (i + 1) % 8);
        }
        for (int i = 0; i < 10; i++) {
            x.house(i % 8, 5, 50, 60, 10 + i);
            x.front(i, i);
            x.alter(i, 2, i % 2);
        }
        for (int i = 0; i < 4; i++) {
            x.shake(99, 9);
        }
        x.ask(0, 1);
        x.row(0, 3, 120);
        x.row(1, 3, 120);
        String text = "coin 1;shut 5;daypart 4";
        x.row(2, 0, text.length());
        for (int i = 0; i < text.length(); i++) {
            x.set(2, i, text.charAt(i));
        }
        x.row(3, 0, 1);
        for (int s = 4; s < 8; s++) {
            x.rule(s, 4, 99);
        }
        return x;
    }

    /** Every call once; the dearest are those by SAVES. */
    private static void callAll(StrengthenFirst x) {
        x.image();
        x.row(1, 3, 120);
        x.set(0, 1, 7);
        x.copy(0, 1, 0, 0, 120);
        x.element(0, 1);
        x.rule(7, 6, 3);
        x.holds(7);
        x.says(7, 6);
        x.says(4, 4);
        x.street(0, 1);
        x.house(0, 1, 1, 1, 1);
        x.houses(0, 0, 120);
        x.houseOf(9, 8);
        x.front(9, 3);
        x.next(9, 8);
        x.alter(9, 0, 5);
        x.prop(3, true);
        x.shake(1, 1);
        x.ask(0, 1);
        x.town(2);
        x.town(0);
        x.fault();
        x.falls(1, 1);
        x.cut(1023);
        x.lost(1, 1);
        x.dead(1, 1);
        x.shuts(1, 1);
        x.mean();
        x.worth(1);
        x.which();
        x.order(4, 9);
        x.plan(4, 20);
        x.steps(4, 20);
        x.judge(3, 20);
        x.best(20);
        x.first(20, 4);
        x.gap(4, 20);
        x.bound(20);
        x.head(20);
        x.narrow(1);
        x.years(5, 3);
        x.seed(1);
        x.act(4, 2, 5);
        x.trace(1);
        x.status(1);
        x.restore();
    }
}
