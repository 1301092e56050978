import java.lang.reflect.InvocationTargetException;
import java.lang.reflect.Method;
import java.util.ArrayList;
import java.util.Arrays;
import java.util.HashMap;
import java.util.List;
import java.util.Map;

/** The calls of the face by their names, with what the document lets each of their numbers be. */
final class Calls {
    /** A name, and a letter for each number: what it may be is told by low and high. */
    private static final String[] TOLD = {"board p", "well kqb", "type t", "clear", "read", "day d", "turn ib",
        "want iq", "press p", "undo", "of i4", "hour ih2", "daily I1", "turns I", "fair I", "least", "shut i",
        "left hp", "drew 2", "note iqhpgz", "forget 1", "is i", "look i", "swaps K", "inspector ih", "noons ihc",
        "years sn", "part 1", "image 1", "from 1", "status 2", "count 8", "digest"};

    private static final Map<String, String> RANGES = new HashMap<>();
    private static final Map<String, Method> METHODS = new HashMap<>();
    static final List<String> NAMES = new ArrayList<>();

    static {
        for (String told : TOLD) {
            String[] parts = told.split(" ");
            NAMES.add(parts[0]);
            RANGES.put(parts[0], parts.length > 1 ? parts[1] : "");
        }
    }

    private Calls() {
    }

    record Call(String name, int... values) {
        @Override
        public String toString() {
            return name + Arrays.toString(values);
        }
    }

    static String ranges(String name) {
        return RANGES.get(name);
    }

    static int low(char range) {
        return switch (range) {
            case 'q', 'd' -> 1;
            case 'I', 'K' -> -1;
            default -> 0;
        };
    }

    /** Below low, if there is none that stands. */
    static int high(char range, int wells) {
        return switch (range) {
            case 'p', 'n' -> 60;
            case 'k' -> 5;
            case 'q' -> 20;
            case 'b' -> 255;
            case 't' -> 127;
            case 'd' -> 30;
            case 'h' -> 7;
            case 'g' -> 40;
            case 'z' -> 80;
            case 'c' -> 10;
            case 's' -> 999999;
            case 'i', 'I' -> wells - 1;
            case 'K' -> Integer.MAX_VALUE;
            default -> range - '0';
        };
    }

    /** What a call answers that is refused as BAD. */
    static int badAnswer(String name) {
        return switch (name) {
            case "turns", "fair", "swaps" -> -10;
            case "status" -> -1;
            default -> -2;
        };
    }

    static long ask(Object who, String name, int... values) {
        Object[] boxed = Arrays.stream(values).boxed().toArray();
        try {
            return ((Number) method(who.getClass(), name, values.length).invoke(who, boxed)).longValue();
        } catch (InvocationTargetException e) {
            throw new IllegalStateException(name + Arrays.toString(values) + " threw", e.getCause());
        } catch (ReflectiveOperationException e) {
            throw new IllegalStateException(name + Arrays.toString(values), e);
        }
    }

    private static Method method(Class<?> of, String name, int arity) throws NoSuchMethodException {
        String key = of.getName() + " " + name + " " + arity;
        Method m = METHODS.get(key);
        if (m == null) {
            Class<?>[] types = new Class<?>[arity];
            Arrays.fill(types, int.class);
            m = of.getMethod(name, types);
            METHODS.put(key, m);
        }
        return m;
    }
}
