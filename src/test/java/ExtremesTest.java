import java.lang.reflect.InvocationTargetException;
import java.lang.reflect.Method;
import java.lang.reflect.Modifier;
import java.util.Arrays;
import java.util.Comparator;

/**
 * Each call of the face with numbers from far off, on yards in many states: it answers, or throws just what its
 * throws clause says, by a throw of the class's own.
 */
public final class ExtremesTest {
    private static final int[] ODD = {Integer.MIN_VALUE, Integer.MIN_VALUE + 1, -1000001, -25, -2, -1, 0, 1, 2, 3, 4, 5,
        6, 7, 8, 9, 12, 13, 15, 16, 20, 23, 24, 29, 30, 31, 32, 39, 40, 59, 60, 99, 100, 255, 256, 399, 400, 1000, 1001,
        9999, 10000, 10001, 1000000, 1000001, 1 << 24, 1 << 30, Integer.MAX_VALUE - 1, Integer.MAX_VALUE};
    private static final int CALLS = 512;
    private static final int PREPARED = 250;

    private final Dice dice;
    private final Method[] face;
    private final BreakersYard yard = new BreakersYard();

    private ExtremesTest(int seed) {
        dice = new Dice(seed);
        face = Arrays.stream(BreakersYard.class.getDeclaredMethods())
                .filter(method -> Modifier.isPublic(method.getModifiers()))
                .sorted(Comparator.comparing(Method::getName))
                .toArray(Method[]::new);
    }

    public static void main(String[] args) throws IllegalAccessException {
        for (int seed = 0; seed < 2000; seed++) {
            ExtremesTest run = new ExtremesTest(seed);
            if (seed % 4 != 0) {
                run.prepare();
            }
            for (int call = seed % 4 == 0 ? 0 : PREPARED; call < CALLS; call++) {
                run.call(seed);
            }
        }
        Check.end();
    }

    /** Some 250 calls at most: parts, cars, and items in all places. */
    private void prepare() {
        yard.sheet(dice.below(3));
        Check.fitText(yard, "!(M0|Y5-9)&Ka|M1");
        int parts = 1 + dice.below(8);
        for (int part = 0; part < parts; part++) {
            int ahead = part > 0 && dice.oneIn(3) ? dice.below(part) : -1;
            Check.makePart(yard, 0, dice.below(6), dice.below(3), ahead, 9, 9, dice.below(4), 30000, dice.below(2) - 1);
        }
        for (int car = 1 + dice.below(9); car > 0; car--) {
            yard.car(0, 5, 1, 0);
        }
        for (int act = 0; act < 25; act++) {
            int car = dice.below(yard.count(2));
            yard.take(car, 0);
            yard.drain(car);
            if (yard.count(4) > 0 && dice.oneIn(3)) {
                yard.sell(dice.below(yard.count(4)), 1);
            }
        }
    }

    private void call(int seed) throws IllegalAccessException {
        Method method = face[dice.below(face.length)];
        Class<?>[] types = method.getParameterTypes();
        Object[] numbers = new Object[types.length];
        for (int i = 0; i < types.length; i++) {
            int odd = dice.oneIn(2) ? dice.below(3) : ODD[dice.below(ODD.length)];
            if (types[i] == long.class) {
                numbers[i] = (long) odd << dice.below(64);
            } else {
                numbers[i] = odd;
            }
        }
        String name = "seed " + seed + ", " + method.getName() + Arrays.toString(numbers);
        try {
            method.invoke(yard, numbers);
            Check.due(name, true, true);
        } catch (InvocationTargetException e) {
            Check.due(name + " threw " + e.getCause(), isDue(method, e.getCause()), true);
        }
    }

    /** The machine's own are of other classes than those of the face, or come from below the class. */
    private static boolean isDue(Method method, Throwable thrown) {
        return thrown.getStackTrace()[0].getClassName().equals("BreakersYard")
                && Arrays.asList(method.getExceptionTypes()).contains(thrown.getClass());
    }
}
