import java.lang.reflect.Array;
import java.lang.reflect.Field;
import java.lang.reflect.Modifier;
import java.util.IdentityHashMap;
import java.util.Map;

/** What an object holds stays small, and later calls use it again. */
public final class RoomTest {
    // As README.md tells.
    private static final int ELEMENTS_MOST = 50000;
    private static final int OBJECTS_MOST = 20;

    private final Map<Object, Boolean> seen = new IdentityHashMap<>();
    private long elements = 0;

    public static void main(String[] args) throws IllegalAccessException {
        NumberSieves x = new NumberSieves();
        RoomTest empty = held(x);
        Check.holds("a new object is small: " + empty.elements, empty.elements < 100);
        useAll(x);
        RoomTest before = held(x);
        Check.holds("a used object is small: " + before.elements, before.elements < ELEMENTS_MOST);
        Check.holds("arrays and objects: " + before.seen.size(), before.seen.size() <= OBJECTS_MOST);
        for (int turn = 0; turn < 10; turn++) {
            useAll(x);
        }
        RoomTest after = held(x);
        Check.due("elements held", after.elements, before.elements);
        for (Object part : after.seen.keySet()) {
            Check.holds("what was made once is used again", before.seen.containsKey(part));
        }
        Check.end();
    }

    private static void useAll(NumberSieves x) {
        x.span(Plain.TOP - 4999, 5000);
        x.smooth(1000, false);
        x.next(1000000, true);
        x.part(6469693230L);
        x.without(Plain.TOP);
        x.count(2000000);
        x.sum(2000000);
        x.among(2000000, 4, 1);
        x.points(Plain.TOP);
        x.far(9, 9, 1000000000);
        x.clear();
        for (int row = 0; row < 4; row++) {
            x.rule(row);
            x.sheet();
            x.product(0, 0);
            x.turned(0);
        }
    }

    private static RoomTest held(NumberSieves x) throws IllegalAccessException {
        RoomTest room = new RoomTest();
        room.visit(x);
        return room;
    }

    private void visit(Object o) throws IllegalAccessException {
        if (o == null || seen.put(o, true) != null) {
            return;
        }
        if (o.getClass().isArray()) {
            elements += Array.getLength(o);
            return;
        }
        for (Field f : o.getClass().getDeclaredFields()) {
            if (Modifier.isStatic(f.getModifiers())) {
                continue;
            }
            elements++;
            f.setAccessible(true);
            if (!f.getType().isPrimitive()) {
                visit(f.get(o));
            }
        }
    }
}
