import java.util.Arrays;
import java.util.Random;

/** Any arguments in any state: no call throws, and a refused one changes nothing but what status says. */
public final class WildTest {
    private static final int RUNS = 2000;
    private static final int[] WILD = {Integer.MIN_VALUE, Integer.MIN_VALUE + 1, -61, -11, -10, -6, -5, -4, -3, -2, -1,
        0, 1, 2, 3, 4, 5, 6, 7, 8, 9, 10, 11, 20, 21, 30, 31, 40, 41, 60, 61, 80, 81, 99, 100, 127, 128, 255, 256, 999,
        1000, 999999, 1000000, Integer.MAX_VALUE - 1, Integer.MAX_VALUE};

    public static void main(String[] args) {
        Random random = new Random(7);
        for (int run = 0; run < RUNS; run++) {
            Counted m = new Counted();
            for (int k = 0; k < random.nextInt(7); k++) m.ask("well", k, 20 - k, 37 * k);
            while (m.rest() >= 9) wildCall(m, Calls.NAMES.get(random.nextInt(Calls.NAMES.size())), random);
        }
        Due.end();
    }

    private static void wildCall(Counted m, String name, Random random) {
        int[] values = new int[Calls.ranges(name).length()];
        for (int k = 0; k < values.length; k++) values[k] = WILD[random.nextInt(WILD.length)];
        String told = name + Arrays.toString(values);
        long before = m.ask("digest");
        long refusedBefore = refused(m);
        long answer = m.ask(name, values);
        long refused = refused(m) - refusedBefore;
        if (answer >= -1 && !name.equals("status") || name.equals("digest")) {
            Due.due(told + " refused", refused, 0);
        } else {
            Due.due("digest() behind " + told, m.ask("digest"), before);
        }
        if (answer == -2 && !name.equals("digest")) Due.due(told + " refused", refused, 1);
    }

    private static long refused(Counted m) {
        return m.ask("status", 0) + m.ask("status", 1) + m.ask("status", 2);
    }
}
