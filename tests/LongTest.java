import java.util.ArrayList;
import java.util.Arrays;
import java.util.Collections;
import java.util.List;
import java.util.Random;

/** Runs up to the 512th call of an object, a text of 150 bytes among them: answers as the oracle has them. */
public final class LongTest {
    private static final String[] CHANGES = {"day", "turn", "want", "press", "undo", "well", "left", "note", "forget",
        "image", "from", "noons", "turn", "want", "press", "day", "digest", "digest", "hour", "daily", "count"};

    private final Random random;
    private final Counted m = new Counted();
    private final Oracle oracle = new Oracle();

    private LongTest(long seed) {
        random = new Random(seed);
    }

    public static void main(String[] args) {
        for (int k = 0; k < Calls.NAMES.size(); k++) new LongTest(k).endsWith(Calls.NAMES.get(k));
        Due.says("An object is used for at most 512 calls after it has been made;");
        theLastCalls();
        manyDays();
        allOneCall();
        Due.says("what later calls answer is free.");
        behindTheLast();
        Due.end();
    }

    /** The text comes somewhere among the calls; the 512th call is the one told. */
    private void endsWith(String name) {
        int textAt = 160 + random.nextInt(150);
        for (int k = 0; k < 4; k++) call("well", random.nextInt(6), 1 + random.nextInt(20), random.nextInt(256));
        while (m.rest() > 1) {
            if (m.rest() == 512 - textAt) readAText();
            else call(random.nextInt(3) == 0 ? anyOf(Calls.NAMES) : anyOf(Arrays.asList(CHANGES)));
        }
        call(name);
        Due.due("calls left behind " + name, m.rest(), 0);
    }

    private String anyOf(List<String> names) {
        String name = names.get(random.nextInt(names.size()));
        boolean dear = name.equals("turns") || name.equals("fair");
        boolean clears = name.equals("board") || name.equals("read");
        return dear || clears && random.nextInt(4) > 0 ? "hour" : name;
    }

    private void readAText() {
        List<String> items = new ArrayList<>();
        for (int k = 0; k < 4; k++) items.add("well " + random.nextInt(6) + " " + (1 + random.nextInt(20)) + " 1 3;");
        items.add("turn 0 " + random.nextInt(8) + " 5;");
        items.add("day;");
        items.add("day;");
        Collections.shuffle(items.subList(1, 7), random);
        String text = States.padded("main " + random.nextInt(61) + ";" + String.join("", items));
        call("clear", new int[0]);
        for (char c : text.toCharArray()) call("type", c);
        call("type", 32);
        call("read", new int[0]);
        call("digest", new int[0]);
    }

    private void call(String name) {
        String ranges = Calls.ranges(name);
        int[] values = new int[ranges.length()];
        int wells = Math.max(1, oracle.count(0));
        for (int k = 0; k < values.length; k++) {
            int low = Calls.low(ranges.charAt(k));
            int high = ranges.charAt(k) == 'K' ? 3 : Calls.high(ranges.charAt(k), wells);
            values[k] = low + random.nextInt(high - low + 1);
        }
        call(name, values);
    }

    private void call(String name, int... values) {
        Due.due(name + Arrays.toString(values) + " with " + m.rest() + " calls left", m.ask(name, values),
            Calls.ask(oracle, name, values));
    }

    /** A text of 150 bytes, typed and read three times, is 456 calls; what stands goes on to the 512th. */
    private static void theLastCalls() {
        Counted m = new Counted();
        for (int time = 1; time <= 3; time++) {
            for (int k = 0; k < 150; k++) Due.due("type", m.ask("type", States.FULL_TEXT.charAt(k)), k + 1);
            Due.due("read() the " + time + ". time", m.ask("read"), 8);
            if (time < 3) Due.due("clear()", m.ask("clear"), 150);
        }
        long digest = m.ask("digest");
        while (m.rest() > 7) Due.due("read()", m.ask("read"), 8);
        Due.due("the 506th", m.ask("digest"), digest);
        Due.due("the 507th", m.ask("type", 32), -4);
        Due.due("the 508th", m.ask("day", 1), m.ask("daily", -1, 0));
        Due.due("the 510th", m.ask("undo"), 1);
        Due.due("the 511th", m.ask("undo"), -3);
        Due.due("the 512th", m.ask("digest"), digest);
        Due.due("calls left", m.rest(), 0);
    }

    private static void manyDays() {
        Counted m = new Counted();
        m.ask("well", 1, 20, 255);
        m.ask("press", 20);
        for (int k = 0; k < 250; k++) {
            Due.due("day(30)", m.ask("day", 30), k < 33 ? 4800 : k == 33 ? 1440 : 0);
            Due.due("count(2)", m.ask("count", 2), Math.min(999, 30 * (k + 1)));
        }
        Due.due("had", m.ask("of", 0, 3), 999 * 160);
        Due.due("due", m.ask("of", 0, 4), 999 * 320);
        for (int k = 0; k < 7; k++) Due.due("undo()", m.ask("undo"), 999);
        while (m.rest() > 0) Due.due("count(7)", m.ask("count", 7), 1);
    }

    /** The dearest ones and the refused ones, all calls long. */
    private static void allOneCall() {
        for (String name : new String[] {"turns", "fair"}) {
            Counted m = new Counted();
            for (int k = 0; k < 5; k++) m.ask("well", k, 20, 255);
            m.ask("press", 19);
            long much = m.ask(name, -1);
            while (m.rest() > 0) Due.due(name, m.ask(name, -1), much);
        }
        Counted m = new Counted();
        for (int k = 1; k <= 509; k++) Due.due("from(1)", m.ask("from", 1), -3);
        Due.due("status(1)", m.ask("status", 1), 509);
        Due.due("image(1)", m.ask("image", 1), 1);
        Due.due("the 512th", m.ask("from", 1), 1);
        Counted images = new Counted();
        for (int k = 0; k < 512; k++) Due.due("image", images.ask("image", k & 1), 1);
    }

    /** What an object answers behind its 512th call is free; it must answer, all the same. */
    private static void behindTheLast() {
        WishMeter x = new WishMeter();
        for (int k = 0; k < 5; k++) x.well(k, 20, 255);
        Random random = new Random(512);
        int answered = 0;
        for (int k = 0; k < 20000; k++) {
            String name = Calls.NAMES.get(random.nextInt(Calls.NAMES.size()));
            int[] values = new int[Calls.ranges(name).length()];
            for (int at = 0; at < values.length; at++) {
                values[at] = random.nextInt(9) == 0 ? random.nextInt() : random.nextInt(9) - 1;
            }
            Calls.ask(x, name, values);
            answered++;
        }
        Due.due("calls that answered", answered, 20000);
    }
}
