import java.lang.reflect.Array;
import java.lang.reflect.Field;
import java.lang.reflect.Modifier;
import java.util.ArrayDeque;
import java.util.Collections;
import java.util.Deque;
import java.util.IdentityHashMap;
import java.util.Set;

/**
 * A counter is few objects, and they stay the same in all its calls: all calls of a run live in one room of some
 * 600,000 objects and 7.3 million fields and elements.
 */
final class RoomTest {
    private static final Check CHECK = new Check("RoomTest");
    private static final int MOST_OBJECTS = 3000;
    private static final int MOST_FIELDS = 25000;

    private final Set<Object> objects = Collections.newSetFromMap(new IdentityHashMap<>());
    private final Deque<Object> toLookAt = new ArrayDeque<>();
    private int fields;

    private RoomTest(EscrowCounter counter) throws IllegalAccessException {
        meet(counter);
        while (!toLookAt.isEmpty()) {
            lookAt(toLookAt.remove());
        }
    }

    public static void main(String[] args) throws IllegalAccessException {
        for (int sites = 2; sites <= 5; sites++) {
            EscrowCounter counter = new EscrowCounter(sites);
            RoomTest before = new RoomTest(counter);
            CHECK.note(before.objects.size() <= MOST_OBJECTS, before.objects.size() + " objects");
            CHECK.note(before.fields <= MOST_FIELDS, before.fields + " fields and elements");
            useMuch(counter);
            RoomTest after = new RoomTest(counter);
            CHECK.same("objects after the calls", after.objects.size(), before.objects.size());
            CHECK.note(before.objects.containsAll(after.objects), "a call has kept a new object");
        }
        CHECK.end();
    }

    private static void useMuch(EscrowCounter counter) {
        counter.begin(-10000, 10000, 0);
        for (int turn = 0; turn < 20; turn++) {
            counter.increase(1, 9);
            counter.transfer(1, 0, 1, 1);
            counter.decrease(0, 1);
            if (turn < 10) {
                counter.lend(1, 0, 1, 1, 1 + turn);
            }
            counter.repeat(counter.send(1, 0));
            counter.deliver(1);
            counter.lose(0);
            counter.rebalance(0, 0);
            counter.pass(1);
            Steps.run(counter, "m0>1;t1;m1>0");
            Steps.run(counter, "t1;+1:999");
            counter.undo();
        }
        counter.begin(0, 9, 5);
    }

    private void meet(Object object) {
        if (object != null && objects.add(object)) {
            toLookAt.add(object);
        }
    }

    private void lookAt(Object object) throws IllegalAccessException {
        Class<?> type = object.getClass();
        if (type.isArray()) {
            fields += Array.getLength(object);
            for (int i = 0; i < Array.getLength(object) && !type.getComponentType().isPrimitive(); i++) {
                meet(Array.get(object, i));
            }
            return;
        }
        for (Field field : type.getDeclaredFields()) {
            if (!Modifier.isStatic(field.getModifiers())) {
                fields++;
                field.setAccessible(true);
                meet(field.getType().isPrimitive() ? null : field.get(object));
            }
        }
    }
}
