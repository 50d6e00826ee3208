import java.lang.reflect.Array;
import java.lang.reflect.Field;
import java.lang.reflect.Modifier;
import java.util.ArrayDeque;
import java.util.Collections;
import java.util.IdentityHashMap;
import java.util.Set;

/** What an object holds: a run that makes a new one with each of its calls must still fit the one room. */
public final class RoomTest {
    private static final int CALLS = 512;
    private static final long MOST_OBJECTS = 600_000;
    private static final long MOST_ELEMENTS = 7_300_000;

    public static void main(String[] args) throws IllegalAccessException {
        StreamRemuxer x = new StreamRemuxer();
        long[] held = held(x);
        Checks.due("objects of " + CALLS + ", " + held[0] + " each", CALLS * held[0] <= MOST_OBJECTS, true);
        Checks.due("elements of " + CALLS + ", " + held[1] + " each", CALLS * held[1] <= MOST_ELEMENTS, true);
        useAll(x);
        long[] later = held(x);
        Checks.due("objects behind all calls", later[0], held[0]);
        Checks.due("elements behind all calls", later[1], held[1]);
        Checks.end();
    }

    /** How many objects and arrays, and how many fields and elements in them all. */
    private static long[] held(Object root) throws IllegalAccessException {
        Set<Object> seen = Collections.newSetFromMap(new IdentityHashMap<>());
        ArrayDeque<Object> open = new ArrayDeque<>();
        take(root, seen, open);
        long elements = 0;
        while (!open.isEmpty()) {
            Object one = open.remove();
            if (one.getClass().isArray()) {
                elements += Array.getLength(one);
                for (int i = 0; one instanceof Object[] && i < Array.getLength(one); i++) {
                    take(Array.get(one, i), seen, open);
                }
                continue;
            }
            for (Field field : one.getClass().getDeclaredFields()) {
                if (!Modifier.isStatic(field.getModifiers())) {
                    elements++;
                    takeField(field, one, seen, open);
                }
            }
        }
        return new long[] {seen.size(), elements};
    }

    private static void takeField(Field field, Object owner, Set<Object> seen, ArrayDeque<Object> open)
            throws IllegalAccessException {
        if (!field.getType().isPrimitive()) {
            field.setAccessible(true);
            take(field.get(owner), seen, open);
        }
    }

    private static void take(Object one, Set<Object> seen, ArrayDeque<Object> open) {
        if (one != null && seen.add(one)) {
            open.add(one);
        }
    }

    private static void useAll(StreamRemuxer x) {
        for (int i = 0; i < 70; i++) {
            Checks.addPacket(x, Checks.ramp(i == 5 ? 600 : 27, i), 960L * i);
        }
        for (int lace = 0; lace < 4; lace++) {
            x.turn();
            x.readPages(x.count(3));
            x.elements(lace, 8, 3, lace > 1);
            x.turn();
            x.patch(60, 1);
            x.readElements(x.count(3));
            x.turn();
            Checks.due("readElements", x.readElements(x.count(3)), 64);
            Checks.due("pages", x.pages(lace, 3, 2) > 0, true);
            x.turn();
            Checks.due("sum", x.sum(0), true);
            Checks.due("readPages", x.readPages(x.count(3)), 64);
            x.pages(lace, 20, 255);
        }
    }
}
