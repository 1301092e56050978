import java.lang.reflect.InvocationTargetException;
import java.lang.reflect.Method;
import java.util.Arrays;
import java.util.Random;

/** Long runs of calls by a fixed seed: the class and the oracle must answer alike. */
public final class RandomTest {
    private static final int RUNS = 400, CALLS = 512;
    private static final String[] CHANGES = {"day", "turn", "want", "press", "undo", "well", "well", "left", "note",
        "note", "forget", "image", "from", "noons", "board", "turn", "want", "press", "day"};
    private static final String[] PIECES = {"main", "well", "turn", "day", ";", " ", "0", "7", "12", "99", "100",
        "x", "A", "#"};

    private final Random random;
    private final WishMeter x = new WishMeter();
    private final Oracle oracle = new Oracle();
    private int calls = 0;

    private RandomTest(long seed) {
        random = new Random(seed);
    }

    public static void main(String[] args) throws ReflectiveOperationException {
        for (int run = 0; run < RUNS; run++) new RandomTest(run).run();
        Due.end();
    }

    private void run() throws ReflectiveOperationException {
        if (random.nextInt(3) > 0) readAText();
        int most = random.nextInt(4) == 0 ? CALLS : 120;
        while (calls < most) {
            if (random.nextInt(60) == 0 && calls < CALLS - 170) readAText();
            else if (random.nextInt(8) == 0) aLikelyNote();
            else if (random.nextInt(8) == 0) aLikelyLeft();
            else oneCall();
        }
    }

    private void oneCall() throws ReflectiveOperationException {
        Method[] methods = sorted();
        Method m = methods[random.nextInt(methods.length)];
        if (random.nextInt(2) == 0) m = named(methods, CHANGES[random.nextInt(CHANGES.length)]);
        if (m.getName().equals("board") && random.nextInt(8) > 0) return;
        call(m.getName(), argumentsOf(m));
    }

    private static Method[] sorted() {
        Method[] methods = Arrays.stream(Oracle.class.getDeclaredMethods())
            .filter(m -> java.lang.reflect.Modifier.isPublic(m.getModifiers())).toArray(Method[]::new);
        Arrays.sort(methods, (a, b) -> a.getName().compareTo(b.getName()));
        return methods;
    }

    private static Method named(Method[] methods, String name) {
        for (Method m : methods) if (m.getName().equals(name)) return m;
        throw new IllegalArgumentException(name);
    }

    private int[] argumentsOf(Method m) {
        String ranges = switch (m.getName()) {
            case "board", "press" -> "p";
            case "well" -> "kqb";
            case "turn" -> "ib";
            case "want" -> "iq";
            case "day" -> "d";
            case "type" -> "t";
            case "of" -> "i4";
            case "hour" -> "ih2";
            case "daily" -> "i1";
            case "left" -> "hp";
            case "note" -> "iqhpgz";
            case "inspector" -> "ih";
            case "noons" -> "ihc";
            case "years" -> "sn";
            case "drew", "status" -> "2";
            case "count" -> "8";
            case "part", "image", "from", "forget" -> "1";
            case "swaps" -> "4";
            default -> "i".repeat(m.getParameterCount());
        };
        int[] values = new int[ranges.length()];
        for (int k = 0; k < values.length; k++) values[k] = valueOf(ranges.charAt(k));
        return values;
    }

    private int valueOf(char range) {
        int low = range == 'q' || range == 'd' ? 1 : range == 'i' || range == '4' ? -1 : 0;
        int high = switch (range) {
            case 'p', 'n' -> 60;
            case 'k' -> 5;
            case 'q' -> 20;
            case 'b' -> 255;
            case 'd' -> 30;
            case 't' -> 127;
            case 'h' -> 7;
            case 'g' -> 40;
            case 'z' -> 80;
            case 'c' -> 10;
            case 's' -> 999999;
            case 'i' -> 4;
            default -> range - '0';
        };
        int pick = random.nextInt(40);
        if (pick == 0) return low - 1;
        if (pick == 1) return high + 1;
        if (pick == 2) return random.nextInt();
        if (pick < 6) return high;
        return low + random.nextInt(high - low + 1);
    }

    /** One that a kind explains, so that some kinds stay. */
    private void aLikelyNote() throws ReflectiveOperationException {
        int i = random.nextInt(5);
        int q = 1 + random.nextInt(20);
        int h = random.nextInt(8);
        int p = random.nextInt(random.nextBoolean() ? 61 : 14);
        Oracle other = new Oracle();
        other.board(p);
        other.well(random.nextInt(6), q, 255);
        call("note", i, q, h, p, other.hour(0, h, 0), random.nextInt(9) == 0 ? 1 : dueOf(other, h));
        call("is", i);
        call("look", i);
    }

    private static int dueOf(Oracle other, int h) {
        other.turn(0, 1 << h);
        return other.daily(0, 1);
    }

    private void aLikelyLeft() throws ReflectiveOperationException {
        int h = random.nextInt(8);
        if (oracle.count(0) == 0) return;
        call("left", h, oracle.hour(0, h, 2));
        for (int what = 0; what < 3; what++) call("drew", what);
    }

    private void readAText() throws ReflectiveOperationException {
        String text = aText();
        call("clear");
        for (int k = 0; k < text.length() && k < 151; k++) call("type", text.charAt(k));
        call("read");
    }

    private String aText() {
        StringBuilder text = new StringBuilder();
        text.append(blanks()).append("main").append(blanks()).append(random.nextInt(61)).append(blanks()).append(";");
        int items = random.nextInt(9);
        for (int k = 0; k < items; k++) text.append(blanks()).append(anItem()).append(blanks()).append(";");
        text.append(blanks());
        if (random.nextInt(3) == 0) spoil(text);
        return text.toString();
    }

    private String anItem() {
        int pick = random.nextInt(5);
        if (pick == 0) return "day";
        if (pick == 1) return "turn" + blanks() + random.nextInt(3) + someHours();
        return "well" + blanks() + random.nextInt(6) + " " + blanks() + (1 + random.nextInt(20)) + someHours();
    }

    private String someHours() {
        StringBuilder hours = new StringBuilder();
        int many = random.nextInt(5);
        for (int k = 0; k < many; k++) hours.append(" ").append(blanks()).append(random.nextInt(8));
        return hours.toString();
    }

    private String blanks() {
        return random.nextInt(6) == 0 ? "  ".substring(random.nextInt(2)) : "";
    }

    private void spoil(StringBuilder text) {
        int at = random.nextInt(text.length());
        int pick = random.nextInt(4);
        if (pick == 0) text.setLength(at);
        else if (pick == 1) text.deleteCharAt(at);
        else if (pick == 2) text.insert(at, PIECES[random.nextInt(PIECES.length)]);
        else text.setCharAt(at, (char) random.nextInt(128));
    }

    private void call(String name, int... values) throws ReflectiveOperationException {
        calls++;
        long got = ask(x, name, values);
        Due.due(name + Arrays.toString(values), got, ask(oracle, name, values));
        Due.due("digest behind " + name, x.digest(), oracle.digest());
        for (int k = 0; k < 3; k++) Due.due("status behind " + name, x.status(k), oracle.status(k));
    }

    private static long ask(Object who, String name, int[] values) throws ReflectiveOperationException {
        Class<?>[] types = new Class<?>[values.length];
        Object[] boxed = new Object[values.length];
        for (int k = 0; k < values.length; k++) {
            types[k] = int.class;
            boxed[k] = values[k];
        }
        try {
            return ((Number) who.getClass().getMethod(name, types).invoke(who, boxed)).longValue();
        } catch (InvocationTargetException e) {
            throw new IllegalStateException(name + Arrays.toString(values), e.getCause());
        }
    }
}
