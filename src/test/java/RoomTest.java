import java.lang.reflect.Array;
import java.lang.reflect.Field;
import java.lang.reflect.Modifier;
import java.util.IdentityHashMap;
import java.util.Map;

/** All calls of one run live in one room: how much of it an object takes, and that no call takes more. */
public final class RoomTest {
    private static final Check CHECK = new Check("RoomTest");
    private static final int CALLS = 512;
    private static final int MOST_OBJECTS = 60, MOST_ELEMENTS = 6500;

    private final Map<Object, Boolean> met = new IdentityHashMap<>();
    private int elements;

    public static void main(String[] args) throws IllegalAccessException {
        MiddlePlank x = new MiddlePlank();
        RoomTest made = new RoomTest();
        made.walk(x);
        CHECK.holds("objects of a new one: " + made.met.size(), made.met.size() <= MOST_OBJECTS);
        CHECK.holds("elements of a new one: " + made.elements, made.elements <= MOST_ELEMENTS);
        fill(x);
        for (int call = 0; call < CALLS; call++) {
            dearest(x, call);
        }
        RoomTest used = new RoomTest();
        used.walk(x);
        CHECK.holds("each object is one of the first", made.met.keySet().containsAll(used.met.keySet()));
        CHECK.due("elements of a used one", used.elements, made.elements);
        CHECK.end();
    }

    private static void fill(MiddlePlank x) {
        Check.type(x, 0, ".r..r....rr.....r..");
        Check.type(x, 1, "p3w1;h8e2;c1w3;g9e4;b5w9;h9w4;c2e2;p6e3");
        Check.type(x, 2, "abcdefghab");
    }

    private static void dearest(MiddlePlank x, int call) {
        x.set(0, call % 10);
        x.seen(call % 25, call % 19);
        x.sheet(call % 4, call % 3, 60);
        x.write(call % 4);
        x.read(call % 4);
        x.copy(call % 4, 0, call % 4, 1, 59);
        x.digest();
    }

    /** An object counts its fields, an array its elements. */
    private void walk(Object from) throws IllegalAccessException {
        if (from == null || met.put(from, true) != null) {
            return;
        }
        if (from.getClass().isArray()) {
            elements += Array.getLength(from);
            for (int i = 0; !from.getClass().getComponentType().isPrimitive() && i < Array.getLength(from); i++) {
                walk(Array.get(from, i));
            }
            return;
        }
        for (Field field : from.getClass().getDeclaredFields()) {
            if (!Modifier.isStatic(field.getModifiers())) {
                elements++;
                field.setAccessible(true);
                if (!field.getType().isPrimitive()) {
                    walk(field.get(from));
                }
            }
        }
    }
}
