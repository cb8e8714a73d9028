import java.lang.reflect.InvocationTargetException;
import java.lang.reflect.Method;
import java.lang.reflect.Modifier;
import java.util.Arrays;
import java.util.Comparator;
import java.util.Random;

/** Calls with any arguments, in any order, and far more than 512 on an object: none throws, and each ends. */
public final class WildTest {
    private static final int OBJECTS = 60, CALLS = 4000;
    private static final int[] ODD = {Integer.MIN_VALUE, Integer.MIN_VALUE + 1, -1000, -2, -1, 20, 24, 25, 30, 48, 60, 61, 96, 97, 130, 330, 999, Integer.MAX_VALUE};
    private static final String[] TAPES = {"light h|d*r ", "gate h>m/d+1", "obey!(k<s)+w", "obey k&w|h/0", "gate ((((m))", "))))+(!(!h))", "light !!!!!!", "!!!!!!!!!h  "};
    private static final Due due = new Due();

    private final Random random;
    private final StrangerSigns x = new StrangerSigns();

    private WildTest(long seed) {
        random = new Random(seed);
    }

    public static void main(String[] args) throws Exception {
        Method[] methods = StrangerSigns.class.getDeclaredMethods();
        methods = Arrays.stream(methods).filter(m -> Modifier.isPublic(m.getModifiers())).sorted(Comparator.comparing(Method::getName)).toArray(Method[]::new);
        for (int i = 0; i < OBJECTS; i++) {
            new WildTest(i).callAll(methods, i % 3);
        }
        due.end();
    }

    /** Back and clear would empty a house ever again, so that some runs have fewer of them. */
    private void callAll(Method[] methods, int rareBack) throws IllegalAccessException {
        for (int i = 0; i < 12; i++) {
            x.place();
            x.way(i, random.nextInt(i + 1), random.nextInt(8), 100 * random.nextInt(4) + 1);
            x.goal(i, random.nextInt(5) - 1);
            x.sign(i, random.nextInt(6), 1 + random.nextInt(99));
        }
        for (int i = 0; i < CALLS; i++) {
            Method method = methods[random.nextInt(methods.length)];
            if (rareBack > 0 && method.getName().equals("back") && random.nextInt(20) > 0) {
                continue;
            }
            if (method.getName().equals("text") && random.nextInt(4) > 0) {
                x.trim(0);
                Object[] tape = tape(TAPES[random.nextInt(4)]);
                x.feed((int) tape[0], (int) tape[1], (int) tape[2]);
            }
            Object[] given = arguments(method);
            try {
                method.invoke(x, given);
            } catch (InvocationTargetException e) {
                due.holds(method.getName() + Arrays.toString(given) + " threw " + e.getCause(), false);
                return;
            }
        }
        due.holds("an object that had so many calls still answers", x.count(13) == StrangerSigns.BAD);
    }

    private Object[] arguments(Method method) {
        Class<?>[] types = method.getParameterTypes();
        if (method.getName().equals("feed") && random.nextInt(8) > 0) {
            return tape(TAPES[random.nextInt(TAPES.length)]);
        }
        Object[] given = new Object[types.length];
        for (int i = 0; i < types.length; i++) {
            given[i] = types[i] == boolean.class ? (Object) random.nextBoolean() : (Object) number();
        }
        return given;
    }

    private static Object[] tape(String text) {
        Object[] given = new Object[3];
        for (int i = 0; i < 3; i++) {
            given[i] = text.charAt(4 * i) << 24 | text.charAt(4 * i + 1) << 16 | text.charAt(4 * i + 2) << 8 | text.charAt(4 * i + 3);
        }
        return given;
    }

    /** Mostly what may stand for something that is there. */
    private int number() {
        int sort = random.nextInt(20);
        if (sort == 0) {
            return ODD[random.nextInt(ODD.length)];
        }
        return sort == 1 ? random.nextInt() : random.nextInt(sort < 12 ? 2 : sort < 17 ? 6 : 14);
    }
}
