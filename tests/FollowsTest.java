import java.util.ArrayList;
import java.util.LinkedHashMap;
import java.util.List;
import java.util.Map;
import java.util.Random;
import java.util.Set;
import java.util.TreeSet;

/**
 * Which questions follow a change, and which do not: many mains by a fixed seed, each asked all there is to ask
 * with the change and without it. What the document lets follow must do so in some main; what it does not, in none.
 * An answer comes of what stands, not of how it came to be: a new object told the same answers the same.
 */
public final class FollowsTest {
    private static final int MAINS = 250;

    private final Random random;
    private int wells;
    private final List<Calls.Call> script = new ArrayList<>();
    private final List<Calls.Call> told = new ArrayList<>();

    private FollowsTest(long seed) {
        random = new Random(seed);
        add(script, "board", random.nextInt(61));
        wells = 1 + random.nextInt(5);
        for (int k = 0; k < wells; k++) {
            add(script, "well", random.nextInt(6), 1 + random.nextInt(20), random.nextInt(256));
        }
        if (random.nextBoolean()) add(script, "day", 1 + random.nextInt(30));
        aLeft();
        for (int k = random.nextInt(4); k > 0; k--) aNote(random.nextInt(wells));
        script.addAll(told);
        for (int k = random.nextInt(3); k > 0; k--) aChange();
    }

    public static void main(String[] args) {
        hours();
        wanted();
        pressure();
        leftOnes();
        notes();
        days();
        aWellBehind();
        texts();
        images();
        undo();
        twins();
        Due.end();
    }

    private static void add(List<Calls.Call> calls, String name, int... values) {
        calls.add(new Calls.Call(name, values));
    }

    /** Some that stay as they are; what is LEFT is so of the wells as they stand. */
    private void aLeft() {
        if (random.nextInt(3) == 0) return;
        int h = random.nextInt(8);
        long left = Counted.by(script).ask("hour", 0, h, 2);
        add(told, "left", h, (int) left);
    }

    /** One that some kind explains. */
    private void aNote(int i) {
        int q = 1 + random.nextInt(20);
        int h = random.nextInt(8);
        int p = random.nextInt(61);
        WishMeter x = Due.main(p, random.nextInt(6), q, 1 << h);
        add(told, "note", i, q, h, p, x.daily(0, 0), x.daily(0, 1));
    }

    private void aChange() {
        switch (random.nextInt(4)) {
            case 0 -> add(script, "turn", random.nextInt(wells), random.nextInt(256));
            case 1 -> add(script, "want", random.nextInt(wells), 1 + random.nextInt(20));
            case 2 -> add(script, "press", random.nextInt(61));
            default -> add(script, "day", 1 + random.nextInt(30));
        }
    }

    private static void hours() {
        Due.says("`int turn(int i, int hours)`: HOURS (bits) in which a WELL is OPEN: those ahead of it. BAD.");
        Due.says("each WELL OPEN in just one HOUR of its own choice");
        Due.says("sets of WELLS that may have been OPEN (whenever they are)");
        follow("turn", "HOURS", "GETS", "ahead", "LEFT", "daily", "all daily", "least", "shut", "swaps", "inspector",
            "noons", "years", "undone");
    }

    private static void wanted() {
        Due.says("`int want(int i, int q)`: What is WANTED of a WELL (1 .. 20): what was. BAD.");
        Due.says("THE MAIN's PRESSURE, WANTED as now");
        follow("want 0", "WANTED", "GETS", "ahead", "LEFT", "daily", "all daily", "turns", "turns of all", "fair",
            "least", "shut", "drew", "look", "swaps", "inspector", "noons", "years", "undone");
    }

    private static void pressure() {
        Due.says("`int press(int pressure)`: THE MAIN's PRESSURE: what it was. BAD.");
        Due.says("X by 65536 (cut), by 61 left over, is THE MAIN's PRESSURE on it");
        follow("press", "PRESSURE", "GETS", "ahead", "LEFT", "daily", "all daily", "turns", "turns of all", "fair",
            "shut", "drew", "swaps", "inspector", "noons", "undone");
    }

    private static void leftOnes() {
        Due.says("LEFT ones 0 .. 3, as they come");
        follow("left", "LEFT ones", "drew");
        follow("forget 0", "LEFT ones", "drew");
    }

    private static void notes() {
        Due.says("NOTES 0 .. 5, as they come");
        follow("note 0", "NOTES", "is", "look");
        follow("forget 1", "NOTES", "is", "look", "is of others", "look of others");
    }

    private static void days() {
        Due.says("HAD, DUE of each are as much more as it GETS in them");
        follow("day", "DAY", "HAD", "DUE", "undone");
    }

    private static void aWellBehind() {
        Due.says("WELLS 0 .. 4, as they come, one behind the other along it");
        follow("well", "LEFT", "all daily", "turns of all", "turns?", "fair", "least", "drew", "swaps",
            "years", "WELLS", "undone");
    }

    private static void texts() {
        Due.says("`int type(int c)`: A byte (0 .. 127) comes behind THE TEXT: how many it has. BAD; FULL.");
        follow("type", "THE TEXT");
        Due.says("`int noons(int i, int h, int c)`: NOONS are THE FRACTION: 1. BAD.");
        follow("noons", "THE FRACTION");
    }

    private static void images() {
        Due.says("`int image(int i)`: An IMAGE is kept: 1. BAD.");
        follow("image");
        Due.says("what may be undone they keep; it goes on from one.");
        follow("image and from");
    }

    private static void undo() {
        Due.says("UNDO: HAD, DUE, HOURS, WANTED, THE MAIN's PRESSURE, the DAY as ahead of the last DAYS gone by, turn,"
            + " want, PRESSURE told (8 at most;");
        follow("eight changes undone", "undone");
    }

    /** One with a ? may follow, but does so too seldom for these mains. */
    private static void follow(String change, String... those) {
        Set<String> may = new TreeSet<>();
        for (String one : those) may.add(one.replace("?", ""));
        Set<String> did = new TreeSet<>();
        for (int seed = 0; seed < MAINS; seed++) {
            FollowsTest main = new FollowsTest(seed);
            Map<String, List<Long>> without = main.answers(main.script);
            Map<String, List<Long>> with = main.answers(main.changed(change));
            for (String question : without.keySet()) {
                boolean same = without.get(question).equals(with.get(question));
                if (!same) did.add(question);
                if (may.contains(question)) continue;
                Due.due(change + " changes the answer to " + question + " of main " + seed, same ? 0 : 1, 0);
            }
        }
        for (String one : those) {
            if (!one.endsWith("?")) Due.due(one + " follows " + change, did.contains(one) ? 1 : 0, 1);
        }
    }

    private List<Calls.Call> changed(String change) {
        List<Calls.Call> calls = new ArrayList<>(script);
        switch (change) {
            case "turn" -> add(calls, "turn", random.nextInt(wells), random.nextInt(256));
            case "want 0" -> add(calls, "want", 0, 1 + random.nextInt(20));
            case "press" -> add(calls, "press", random.nextInt(61));
            case "left" -> add(calls, "left", random.nextInt(8), random.nextInt(61));
            case "note 0" -> add(calls, "note", 0, 1 + random.nextInt(20), random.nextInt(8), random.nextInt(61), 0, 0);
            case "forget 0" -> add(calls, "forget", 0);
            case "forget 1" -> add(calls, "forget", 1);
            case "day" -> add(calls, "day", 1 + random.nextInt(30));
            case "well" -> add(calls, "well", random.nextInt(6), 1 + random.nextInt(20), random.nextInt(256));
            case "type" -> add(calls, "type", random.nextInt(128));
            case "noons" -> add(calls, "noons", random.nextInt(wells), random.nextInt(8), random.nextInt(11));
            case "image" -> add(calls, "image", random.nextInt(2));
            case "image and from" -> goOn(calls);
            default -> undoEight(calls);
        }
        return calls;
    }

    private void goOn(List<Calls.Call> calls) {
        int i = random.nextInt(2);
        add(calls, "image", i);
        add(calls, "board", random.nextInt(61));
        for (int k = 0; k < 5; k++) add(calls, "well", random.nextInt(6), 1 + random.nextInt(20), random.nextInt(256));
        for (int k = 0; k < 4; k++) add(calls, "left", random.nextInt(8), random.nextInt(61));
        for (int k = 0; k < 6; k++) add(calls, "note", random.nextInt(5), 1, 1, 1, 1, 1);
        add(calls, "day", 9);
        add(calls, "from", i);
    }

    /** What might have been undone ahead of the eight is lost by them. */
    private void undoEight(List<Calls.Call> calls) {
        int from = script.size();
        for (int k = 0; k < 8; k++) aChange();
        calls.addAll(script.subList(from, from + 8));
        while (script.size() > from) script.remove(from);
        for (int k = 0; k < 8; k++) add(calls, "undo");
    }

    /** All that is asked, by what it is about; of the wells of the script alone, so that none is refused. */
    private Map<String, List<Long>> answers(List<Calls.Call> calls) {
        Map<String, List<Long>> all = new LinkedHashMap<>();
        Counted m = Counted.by(calls);
        String[] counts = {"WELLS", "PRESSURE", "DAY", "", "", "LEFT ones", "NOTES", "undone", "THE TEXT"};
        for (int what = 0; what < counts.length; what++) ask(all, counts[what], m, "count", what);
        all.remove("");
        ask(all, "THE FRACTION", m, "part", 0);
        ask(all, "THE FRACTION", m, "part", 1);
        String[] of = {"KIND", "WANTED", "HOURS", "HAD", "DUE"};
        for (int i = 0; i < wells; i++) {
            for (int what = 0; what < of.length; what++) ask(all, of[what], m, "of", i, what);
        }
        all.putAll(answersOf(m));
        return all;
    }

    /** What each gets, and who drew: all that does not ask for what is kept of days. */
    private Map<String, List<Long>> answersOf(Counted m) {
        Map<String, List<Long>> all = new LinkedHashMap<>();
        String[] hour = {"GETS", "ahead", "LEFT"};
        for (int i = 0; i < wells; i++) {
            for (int h = 0; h < 24; h++) {
                if (h < 16 || i == 0) ask(all, hour[h / 8], m, "hour", i, h % 8, h / 8);
            }
            ask(all, "daily", m, "daily", i, 0);
            ask(all, "daily", m, "daily", i, 1);
            ask(all, "turns", m, "turns", i);
            ask(all, "fair", m, "fair", i);
            ask(all, "shut", m, "shut", i);
            ask(all, i == 0 ? "is" : "is of others", m, "is", i);
            ask(all, i == 0 ? "look" : "look of others", m, "look", i);
            for (int h = 0; h < 8; h++) ask(all, "inspector", m, "inspector", i, h);
            ask(all, "noons", m, "noons", i, 2 * i & 7 | 1, 4);
            ask(all, "noons", m, "part", 0);
            ask(all, "noons", m, "part", 1);
        }
        ask(all, "all daily", m, "daily", -1, 0);
        ask(all, "all daily", m, "daily", -1, 1);
        ask(all, "turns of all", m, "turns", -1);
        ask(all, "fair", m, "fair", -1);
        ask(all, "least", m, "least");
        for (int what = 0; what < 3; what++) ask(all, "drew", m, "drew", what);
        for (int k = -1; k < 3; k++) ask(all, "swaps", m, "swaps", k);
        ask(all, "years", m, "years", 77, 9);
        return all;
    }

    private static void ask(Map<String, List<Long>> all, String question, Counted m, String name, int... values) {
        if (!all.containsKey(question)) all.put(question, new ArrayList<>());
        all.get(question).add(m.ask(name, values));
    }

    private static void twins() {
        Due.says("How the state is held inside the object is free");
        for (int seed = 0; seed < MAINS; seed++) {
            FollowsTest main = new FollowsTest(seed);
            List<Calls.Call> other = new ArrayList<>();
            for (int k = seed % 3; k < 2; k++) main.goOn(other);
            other.add(0, new Calls.Call("type", 'x'));
            other.addAll(main.twin());
            Map<String, List<Long>> one = main.answersOf(Counted.by(main.script));
            Map<String, List<Long>> two = main.answersOf(Counted.by(other));
            for (String question : one.keySet()) {
                boolean same = one.get(question).equals(two.get(question));
                Due.due(question + " of the twin of main " + seed, same ? 1 : 0, 1);
            }
        }
    }

    /** What stands behind the script, told to a new object at once. */
    private List<Calls.Call> twin() {
        Counted m = Counted.by(script);
        List<Calls.Call> calls = new ArrayList<>();
        add(calls, "board", (int) m.ask("count", 1));
        for (int i = 0; i < wells; i++) {
            add(calls, "well", (int) m.ask("of", i, 0), (int) m.ask("of", i, 1), (int) m.ask("of", i, 2));
        }
        calls.addAll(told);
        return calls;
    }
}
