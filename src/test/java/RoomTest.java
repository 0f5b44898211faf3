import java.lang.reflect.Array;
import java.lang.reflect.Field;
import java.lang.reflect.Modifier;
import java.util.Collections;
import java.util.IdentityHashMap;
import java.util.Set;

/** What an object takes of the one room in which all calls of a run live. */
public final class RoomTest {
    private int objects = 0;
    private int elements = 0;
    private final Set<Object> seen = Collections.newSetFromMap(new IdentityHashMap<>());

    public static void main(String[] args) throws IllegalAccessException {
        Check check = new Check();
        KindPostman x = new KindPostman();
        RoomTest fresh = new RoomTest();
        fresh.count(x);
        System.out.println("a new one: " + fresh.objects + " objects, " + fresh.elements + " elements");
        check.due("512 new ones fit", 512 * fresh.objects < 600000 && 512 * fresh.elements < 7300000, true);
        x.carries(400, 1);
        x.net(-1);
        RoomTest used = new RoomTest();
        used.count(x);
        System.out.println("one that has thought: " + used.objects + " objects, " + used.elements + " elements");
        int made = used.objects - fresh.objects;
        check.due("256 that thought fit", 256 * (used.elements + fresh.elements) < 7300000 && made <= 1, true);
        check.end();
    }

    private void count(Object o) throws IllegalAccessException {
        if (o == null || !seen.add(o)) {
            return;
        }
        objects++;
        Class<?> c = o.getClass();
        if (c.isArray()) {
            int length = Array.getLength(o);
            elements += length;
            for (int i = 0; i < length && !c.getComponentType().isPrimitive(); i++) {
                count(Array.get(o, i));
            }
            return;
        }
        for (Field f : c.getDeclaredFields()) {
            if (!Modifier.isStatic(f.getModifiers())) {
                elements++;
                f.setAccessible(true);
                if (!f.getType().isPrimitive()) {
                    count(f.get(o));
                }
            }
        }
    }
}
