import java.util.Arrays;
import java.util.Random;

/** Long runs of calls by a fixed seed: the class and the oracle must answer alike. */
public final class RandomTest {
    private static final int RUNS = 400;
    private static final String[] CHANGES = {"day", "turn", "want", "press", "undo", "well", "well", "left", "note",
        "note", "forget", "image", "from", "noons", "board", "turn", "want", "press", "day"};
    private static final String[] PIECES = {"main", "well", "turn", "day", ";", " ", "0", "7", "12", "99", "100",
        "x", "A", "#"};

    private final Random random;
    private final Counted m = new Counted();
    private final Oracle oracle = new Oracle();

    private RandomTest(long seed) {
        random = new Random(seed);
    }

    public static void main(String[] args) {
        for (int run = 0; run < RUNS; run++) new RandomTest(run).run();
        Due.end();
    }

    private void run() {
        if (random.nextInt(3) > 0) readAText();
        while (m.rest() > 20) {
            if (random.nextInt(60) == 0 && m.rest() > 180) readAText();
            else if (random.nextInt(8) == 0) aLikelyNote();
            else if (random.nextInt(8) == 0) aLikelyLeft();
            else oneCall();
        }
    }

    private void oneCall() {
        String name = Calls.NAMES.get(random.nextInt(Calls.NAMES.size()));
        if (random.nextInt(2) == 0) name = CHANGES[random.nextInt(CHANGES.length)];
        if (name.equals("board") && random.nextInt(8) > 0) return;
        String ranges = Calls.ranges(name);
        int[] values = new int[ranges.length()];
        for (int k = 0; k < values.length; k++) values[k] = valueOf(ranges.charAt(k));
        call(name, values);
    }

    /** Of wells all five, whether they are there or not. */
    private int valueOf(char range) {
        int low = Calls.low(range);
        int high = range == 'K' ? 4 : Calls.high(range, 5);
        int pick = random.nextInt(40);
        if (pick == 0) return low - 1;
        if (pick == 1) return high + 1;
        if (pick == 2) return random.nextInt();
        if (pick < 6) return high;
        return low + random.nextInt(high - low + 1);
    }

    /** One that a kind explains, so that some kinds stay. */
    private void aLikelyNote() {
        int i = random.nextInt(5);
        int q = 1 + random.nextInt(20);
        int h = random.nextInt(8);
        int p = random.nextInt(random.nextBoolean() ? 61 : 14);
        Oracle other = new Oracle();
        other.board(p);
        other.well(random.nextInt(6), q, 255);
        call("note", i, q, h, p, other.hour(0, h, 0), random.nextInt(9) == 0 ? 1 : dueOf(other, h));
        call("is", i);
        call("look", i);
    }

    private static int dueOf(Oracle other, int h) {
        other.turn(0, 1 << h);
        return other.daily(0, 1);
    }

    private void aLikelyLeft() {
        int h = random.nextInt(8);
        if (oracle.count(0) == 0) return;
        call("left", h, oracle.hour(0, h, 2));
        for (int what = 0; what < 3; what++) call("drew", what);
    }

    private void readAText() {
        String text = aText();
        call("clear");
        for (int k = 0; k < text.length() && k < 151; k++) call("type", text.charAt(k));
        call("read");
    }

    private String aText() {
        StringBuilder text = new StringBuilder();
        text.append(blanks()).append("main").append(blanks()).append(random.nextInt(61)).append(blanks()).append(";");
        int items = random.nextInt(9);
        for (int k = 0; k < items; k++) text.append(blanks()).append(anItem()).append(blanks()).append(";");
        text.append(blanks());
        if (random.nextInt(3) == 0) spoil(text);
        return text.toString();
    }

    private String anItem() {
        int pick = random.nextInt(5);
        if (pick == 0) return "day";
        if (pick == 1) return "turn" + blanks() + random.nextInt(3) + someHours();
        return "well" + blanks() + random.nextInt(6) + " " + blanks() + (1 + random.nextInt(20)) + someHours();
    }

    private String someHours() {
        StringBuilder hours = new StringBuilder();
        int many = random.nextInt(5);
        for (int k = 0; k < many; k++) hours.append(" ").append(blanks()).append(random.nextInt(8));
        return hours.toString();
    }

    private String blanks() {
        return random.nextInt(6) == 0 ? "  ".substring(random.nextInt(2)) : "";
    }

    private void spoil(StringBuilder text) {
        int at = random.nextInt(text.length());
        int pick = random.nextInt(4);
        if (pick == 0) text.setLength(at);
        else if (pick == 1) text.deleteCharAt(at);
        else if (pick == 2) text.insert(at, PIECES[random.nextInt(PIECES.length)]);
        else text.setCharAt(at, (char) random.nextInt(128));
    }

    /** Often with the digest behind it, sometimes with STATUS. */
    private void call(String name, int... values) {
        answersAlike(name, values);
        if (random.nextInt(2) == 0 && !name.equals("type")) answersAlike("digest");
        if (random.nextInt(9) == 0 && !name.equals("type")) {
            for (int k = 0; k < 3; k++) answersAlike("status", k);
        }
    }

    private void answersAlike(String name, int... values) {
        Due.due(name + Arrays.toString(values), m.ask(name, values), Calls.ask(oracle, name, values));
    }
}
