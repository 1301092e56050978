import java.lang.reflect.InvocationTargetException;
import java.lang.reflect.Method;
import java.lang.reflect.Modifier;
import java.util.Arrays;
import java.util.Random;

/** Any arguments in any state: no call throws, and a refused one changes nothing but what status says. */
public final class WildTest {
    private static final int[] WILD = {Integer.MIN_VALUE, Integer.MIN_VALUE + 1, -61, -11, -10, -6, -5, -4, -3, -2, -1,
        0, 1, 2, 3, 4, 5, 6, 7, 8, 9, 10, 11, 20, 21, 30, 31, 40, 41, 60, 61, 80, 81, 99, 100, 127, 128, 255, 256, 999,
        1000, 999999, 1000000, Integer.MAX_VALUE - 1, Integer.MAX_VALUE};

    public static void main(String[] args) throws ReflectiveOperationException {
        Method[] methods = Arrays.stream(WishMeter.class.getDeclaredMethods())
            .filter(m -> Modifier.isPublic(m.getModifiers())).toArray(Method[]::new);
        Arrays.sort(methods, (a, b) -> a.getName().compareTo(b.getName()));
        Random random = new Random(7);
        for (int run = 0; run < 300; run++) {
            WishMeter x = new WishMeter();
            for (int k = 0; k < random.nextInt(7); k++) x.well(k, 20 - k, 37 * k);
            for (int k = 0; k < 500; k++) wildCall(x, methods[random.nextInt(methods.length)], random);
        }
        Due.end();
    }

    private static void wildCall(WishMeter x, Method m, Random random) throws ReflectiveOperationException {
        Object[] values = new Object[m.getParameterCount()];
        for (int k = 0; k < values.length; k++) values[k] = WILD[random.nextInt(WILD.length)];
        String told = m.getName() + Arrays.toString(values);
        long before = x.digest();
        int refusedBefore = x.status(0) + x.status(1) + x.status(2);
        long answer = 0;
        try {
            answer = ((Number) m.invoke(x, values)).longValue();
        } catch (InvocationTargetException e) {
            Due.due(told + " threw " + e.getCause(), 1, 0);
        }
        int refused = x.status(0) + x.status(1) + x.status(2) - refusedBefore;
        if (answer >= -1 && !m.getName().equals("status") || m.getName().equals("digest")) {
            Due.due(told + " refused", refused, 0);
        } else {
            Due.due("digest() behind " + told, x.digest(), before);
        }
        if (answer == -2 && !m.getName().equals("digest")) Due.due(told + " refused", refused, 1);
    }
}
