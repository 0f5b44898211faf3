import java.lang.reflect.InvocationTargetException;
import java.lang.reflect.Method;
import java.lang.reflect.Modifier;
import java.util.ArrayList;
import java.util.Comparator;
import java.util.List;
import java.util.Random;

/** All promises: no call throws, for any arguments in any state. */
public final class AnyCallTest {
    private static final int RUNS = 1500;
    private static final int CALLS = 511;
    private static final int[] EDGES = {Integer.MIN_VALUE, Integer.MIN_VALUE + 1, -10000, -51, -10, -2, -1, 0, 1, 2,
        3, 4, 5, 6, 7, 8, 9, 10, 11, 12, 13, 15, 16, 21, 22, 23, 24, 25, 26, 50, 51, 60, 61, 63, 64, 99, 100, 400,
        401, 999, 1000, 9999, 10000, Integer.MAX_VALUE - 1, Integer.MAX_VALUE};
    private static final String SIGNS = "opens 1 when not((((kind<2*much/3+face-4)))) and or; gives tires on 0 to walk street";

    public static void main(String[] args) throws IllegalAccessException {
        List<Method> face = new ArrayList<>();
        for (Method m : KindPostman.class.getDeclaredMethods()) {
            if (Modifier.isPublic(m.getModifiers())) {
                face.add(m);
            }
        }
        face.sort(Comparator.comparing(Method::getName));
        Random chance = new Random(1);
        for (int run = 0; run < RUNS; run++) {
            KindPostman x = new KindPostman();
            for (int i = 0; i < CALLS; i++) {
                Method m = face.get(chance.nextInt(face.size()));
                Object[] arguments = arguments(m, chance);
                try {
                    m.invoke(x, arguments);
                } catch (InvocationTargetException e) {
                    System.out.println("run " + run + ": " + m.getName() + java.util.Arrays.toString(arguments)
                        + " threw " + e.getCause());
                    e.getCause().printStackTrace(System.out);
                    System.exit(1);
                }
            }
        }
        System.out.println(RUNS + " runs, none threw");
    }

    private static Object[] arguments(Method m, Random chance) {
        Object[] arguments = new Object[m.getParameterCount()];
        boolean isWild = chance.nextInt(3) == 0;
        int at = chance.nextInt(SIGNS.length());
        for (int i = 0; i < arguments.length; i++) {
            if (m.getParameterTypes()[i] == boolean.class) {
                arguments[i] = chance.nextBoolean();
            } else if (m.getName().equals("feed") && !isWild) {
                arguments[i] = Words.four(SIGNS, (at + 4 * i) % SIGNS.length());
            } else if (isWild) {
                arguments[i] = chance.nextBoolean() ? chance.nextInt() : EDGES[chance.nextInt(EDGES.length)];
            } else {
                arguments[i] = chance.nextInt(8);
            }
        }
        return arguments;
    }
}
