import java.lang.management.ManagementFactory;
import java.lang.reflect.Array;
import java.lang.reflect.Field;
import java.lang.reflect.Modifier;
import java.util.IdentityHashMap;

/** What an object takes of the room that all calls of a run share: all of it when it is made. */
public final class RoomTest {
    private static final Check CHECK = new Check("RoomTest");
    /** Some 50 calls each, so that an object has no more than 512. */
    private static final int PASSES = 10, OBJECTS = 50;
    /** 512 objects, each made by one call, would still take less than half of the room. */
    private static final int MOST_OBJECTS = 100, MOST_ELEMENTS = 7000;

    private final IdentityHashMap<Object, Boolean> met = new IdentityHashMap<>();
    private long elements;

    public static void main(String[] args) throws Exception {
        RoomTest room = new RoomTest();
        SandGroup x = new SandGroup();
        room.walk(x);
        System.out.println("RoomTest: " + room.met.size() + " objects, " + room.elements + " fields and elements");
        CHECK.holds("few objects are made", room.met.size() <= MOST_OBJECTS);
        CHECK.holds("few elements are made", room.elements <= MOST_ELEMENTS);
        long before = room.elements;
        for (int pass = 0; pass < PASSES; pass++) {
            everyCall(x, pass);
        }
        RoomTest behind = new RoomTest();
        behind.walk(x);
        CHECK.due("elements behind all calls", behind.elements, before);
        allocates();
        CHECK.end();
    }

    private void walk(Object object) throws Exception {
        if (object == null || met.put(object, true) != null) {
            return;
        }
        if (object.getClass().isArray()) {
            elements += Array.getLength(object);
            if (!object.getClass().getComponentType().isPrimitive()) {
                for (Object part : (Object[]) object) {
                    walk(part);
                }
            }
            return;
        }
        for (Field field : object.getClass().getDeclaredFields()) {
            if (!Modifier.isStatic(field.getModifiers())) {
                elements++;
                field.setAccessible(true);
                if (!field.getType().isPrimitive()) {
                    walk(field.get(object));
                }
            }
        }
    }

    private static int everyCall(SandGroup x, int pass) {
        int answers = 0;
        int cell = pass % 4;
        answers += x.size(2 + pass % 3, 2) + x.wall(1, pass % 2 == 0) + x.set(0, 500) + x.drop(cell, 3);
        answers += x.topple(0) + x.height(0) + x.settled(pass % 5) + x.trace(pass % 4, 50) + x.common(0, pass % 4);
        answers += x.film(0) + x.steadies(0) + x.judge(0) + x.settle() + x.keep(0) + x.nought(1) + x.sum(2, 0, 1);
        answers += x.times(3, 0, 1000 + pass) + x.opposite(4, 0) + x.order(0) + x.one(0, 3) + (int) x.group();
        answers += x.load(4) + x.pile(4, 0) + x.burn(0, pass % 3) + x.through() + x.avalanche(cell, pass % 4);
        answers += x.again(0, 0) + x.lots(pass, 100, 3) + x.list(1, 40) + x.put(1, 39, pass) + (int) x.get(1, 39);
        answers += x.undo() + x.redo() + x.count(pass % 9) + x.feed('1') + x.feed('/') + x.feed('2') + x.read();
        answers += x.read() + x.why(2);
        return answers;
    }

    /** Bytes that this thread allocates, so far as this machine tells them. */
    private static void allocates() {
        if (!(ManagementFactory.getThreadMXBean() instanceof com.sun.management.ThreadMXBean bean)
                || !bean.isThreadAllocatedMemorySupported()) {
            System.out.println("RoomTest: this machine does not tell what is allocated");
            return;
        }
        SandGroup[] objects = new SandGroup[OBJECTS];
        for (int i = 0; i < OBJECTS; i++) {
            objects[i] = new SandGroup();
        }
        long id = Thread.currentThread().getId();
        everyCall(new SandGroup(), 0);
        long before = bean.getThreadAllocatedBytes(id);
        for (SandGroup x : objects) {
            for (int pass = 0; pass < PASSES; pass++) {
                everyCall(x, pass);
            }
        }
        long bytes = bean.getThreadAllocatedBytes(id) - before;
        System.out.println("RoomTest: " + bytes + " bytes allocated by the calls");
        // the bean's own answer may take a few bytes
        CHECK.holds("calls make nothing", bytes < 4096);
    }
}
