import com.sun.management.ThreadMXBean;
import java.lang.management.ManagementFactory;
import java.lang.reflect.Array;
import java.lang.reflect.Field;
import java.lang.reflect.Modifier;
import java.util.ArrayDeque;
import java.util.Collections;
import java.util.Deque;
import java.util.IdentityHashMap;
import java.util.Set;

/** The room that a run takes: what an object holds, and that its calls make nothing but meetings. */
public final class RoomTest extends Asked {
    private static final ThreadMXBean BEAN = (ThreadMXBean) ManagementFactory.getThreadMXBean();
    private static int objects;
    private static int elements;

    public static void main(String[] args) throws IllegalAccessException {
        objectsOfAll();
        callsMakeNothing();
        sum();
    }

    private static void few(String call, long many, long most) {
        due(call + ": " + many + " is above " + most, many > most ? 1 : 0, 0);
    }

    private static void objectsOfAll() throws IllegalAccessException {
        promise = "room of an object";
        measure(new LateMinutes());
        few("objects of a new one", objects, 100);
        few("elements of a new one", elements, 5000);
        measure(Town.full());
        few("objects of a full one", objects, 200);
        few("elements of a full one", elements, 6000);
    }

    /** Counts all that can be reached from it. */
    private static void measure(LateMinutes from) throws IllegalAccessException {
        Set<Object> seen = Collections.newSetFromMap(new IdentityHashMap<>());
        Deque<Object> open = new ArrayDeque<>();
        open.add(from);
        seen.add(from);
        objects = 0;
        elements = 0;
        while (!open.isEmpty()) {
            Object o = open.poll();
            objects++;
            if (o.getClass().isArray()) {
                elements += Array.getLength(o);
                if (o instanceof Object[]) for (Object part : (Object[]) o) reach(part, seen, open);
                continue;
            }
            for (Field f : o.getClass().getDeclaredFields()) {
                if (Modifier.isStatic(f.getModifiers())) continue;
                elements++;
                f.setAccessible(true);
                if (!f.getType().isPrimitive()) reach(f.get(o), seen, open);
            }
        }
    }

    private static void reach(Object o, Set<Object> seen, Deque<Object> open) {
        if (o != null && seen.add(o)) open.add(o);
    }

    private static void callsMakeNothing() {
        promise = "room of calls";
        Twins.Call[] calls = {x -> x.now(99) ? 1 : 0, x -> x.worth(0, 0, 2) ? 1 : 0, x -> x.came(5, 0, 700) ? 1 : 0,
            x -> x.feed(1, 2, 3, 4, 5), x -> x.law(100), x -> x.begins(0), x -> x.keeps(0, 0, 1), x -> x.kept(9, 1, 0),
            x -> x.owes(0, 0, 1, 0), x -> x.chain(9, 0, 1, 0), x -> x.settle(7), x -> x.noteIs(3, 2),
            x -> x.hand(3, 7) ? 1 : 0, x -> x.cut(3, 1), x -> x.take(5, 1, 1), x -> x.owed(-1, -1), x -> x.called(1, 6),
            x -> x.round(), x -> x.takings(), x -> x.end(0, 0, 1), x -> x.bridge(1, 2, 3) ? 1 : 0,
            x -> x.crosses(0, true) ? 1 : 0, x -> x.lateIf(0, 5, 0), x -> x.hang(255, 5, 3), x -> x.cost(0, 0, 5, 5),
            x -> x.out(0, 0, 5), x -> x.two(0, 1, 0, 5, 5, 5), x -> x.outTwo(0, 1, 0, 5, 5), x -> x.rest(5, 5, -1),
            x -> x.lost(), x -> x.seed(5) ? 1 : 0, x -> x.draw(8, 5), x -> x.check(3), x -> x.count(5)};
        for (int turn = 0; turn < 2; turn++) {
            LateMinutes x = Town.full();
            for (int i = 0; i < calls.length; i++) {
                long before = BEAN.getCurrentThreadAllocatedBytes();
                for (int k = 0; k < 5; k++) calls[i].on(x);
                long made = BEAN.getCurrentThreadAllocatedBytes() - before;
                // What the first turn makes is the machine's own.
                if (turn == 1) few("bytes made by call " + i, made, 200);
            }
        }
    }
}
