import java.util.ArrayList;
import java.util.Arrays;
import java.util.LinkedHashMap;
import java.util.List;
import java.util.Map;
import java.util.Set;
import java.util.TreeSet;

/**
 * What a call leaves behind it for later calls: of all that an object holds, just what the document tells is
 * other than without the call. What it holds is looked at by asking, in objects of their own, since to look at
 * what may be undone, at IMAGES or at THE TEXT is to change the rest.
 */
public final class KeptTest {
    private static final String[] OF = {"KIND of ", "WANTED of ", "HOURS of ", "HAD of ", "DUE of "};
    private static final String TEXT = "main 8;well 2 9 0 3;well 3 4 3;day;";

    private static String state = "";
    private static List<Calls.Call> script = List.of();
    private static Map<String, List<Long>> before = Map.of();

    public static void main(String[] args) {
        in("an empty one", List.of());
        bareOne();
        in("three wells", three());
        threeWells();
        in("all full", States.full());
        allFull();
        undoneAgain();
        twoObjects();
        Due.end();
    }

    /** Three wells, two LEFT ones, two NOTES, four that may be undone, IMAGE 0, a text that reads. */
    private static List<Calls.Call> three() {
        List<Calls.Call> calls = new ArrayList<>();
        add(calls, "well", 5, 7, 15);
        add(calls, "day", 3);
        add(calls, "image", 0);
        add(calls, "well", 1, 12, 21);
        add(calls, "well", 3, 5, 170);
        add(calls, "day", 4);
        add(calls, "want", 0, 8);
        add(calls, "turn", 2, 129);
        add(calls, "press", 26);
        add(calls, "left", 0, 14);
        add(calls, "left", 3, 10);
        add(calls, "note", 0, 8, 1, 26, 16, 17);
        add(calls, "note", 2, 5, 7, 26, 5, 0);
        add(calls, "noons", 1, 0, 3);
        add(calls, "day", 31);
        for (char c : TEXT.toCharArray()) add(calls, "type", c);
        return calls;
    }

    private static void add(List<Calls.Call> calls, String name, int... values) {
        calls.add(new Calls.Call(name, values));
    }

    private static void in(String name, List<Calls.Call> calls) {
        state = name;
        script = calls;
        before = held(calls);
    }

    /** What may be other; all that is told without a * must be, since nothing in the state is by chance as told. */
    private static void leaves(String name, int[] values, String... changed) {
        List<Calls.Call> calls = new ArrayList<>(script);
        add(calls, name, values);
        Map<String, List<Long>> behind = held(calls);
        Set<String> may = new TreeSet<>();
        String told = state + ": " + name + Arrays.toString(values);
        for (String one : changed) {
            String what = one.replace("*", "");
            may.add(what);
            Due.due(told + ": there is " + what, before.containsKey(what) ? 1 : 0, 1);
            if (one.equals(what)) Due.due(told + " is seen in " + what, same(what, behind) ? 1 : 0, 0);
        }
        for (String what : before.keySet()) {
            if (!may.contains(what)) Due.due(told + " leaves " + what + " as it was", same(what, behind) ? 1 : 0, 1);
        }
    }

    private static boolean same(String what, Map<String, List<Long>> behind) {
        return before.get(what).equals(behind.get(what));
    }

    private static int[] of(int... values) {
        return values;
    }

    private static String[] all(String... which) {
        List<String> names = new ArrayList<>(List.of(which));
        for (String one : which) {
            if (!one.startsWith("of each ")) continue;
            names.remove(one);
            for (int i = 0; i < 5; i++) names.add(one.substring(8) + " of " + i + "*");
        }
        return names.toArray(new String[0]);
    }

    /** All that board, read and from take the place of. */
    private static String[] theMain() {
        return all("WELLS*", "PRESSURE*", "DAY*", "of each KIND", "of each WANTED", "of each HOURS", "of each HAD",
            "of each DUE", "LEFT ones*", "NOTES*", "undone*");
    }

    private static void bareOne() {
        Due.says("all else as at first (but for IMAGES, THE TEXT, THE FRACTION, STATUS)");
        leaves("board", of(30));
        leaves("board", of(9), "PRESSURE");
        Due.says("n DAYS go by (1 .. 30; together one that may be undone, also if none goes by;");
        leaves("day", of(2), "DAY", "undone");
        Due.says("`int read()`: THE MAIN is read: how many ITEMS. -10 less the FAULT: all stays.");
        leaves("read", of());
        Due.says("`int undo()`: UNDO: the DAY then. NO: none may be.");
        leaves("undo", of(), "STATUS");
        Due.says("`int from(int i)`: It goes on from an IMAGE: 1. BAD; NO: none was kept.");
        leaves("from", of(0), "STATUS");
        Due.says("`int image(int i)`: An IMAGE is kept: 1. BAD.");
        leaves("image", of(0), "IMAGE 0");
        Due.says("`int left(int h, int x)`: LEFT: how many there are. BAD; FULL: 4.");
        leaves("left", of(0, 30), "LEFT ones");
        Due.says("`int well(int kind, int wanted, int hours)`: A WELL: its number. BAD; FULL: 5.");
        leaves("well", of(0, 3, 5), "WELLS", "KIND of 0", "WANTED of 0", "HOURS of 0", "HAD of 0", "DUE of 0");
        Due.says("`int type(int c)`: A byte (0 .. 127) comes behind THE TEXT: how many it has. BAD; FULL.");
        leaves("type", of('m'), "THE TEXT");
        questions(0);
    }

    private static void threeWells() {
        Due.says("`int board(int pressure)`: PRESSURE, all else as at first (but for IMAGES, THE TEXT, THE FRACTION,"
            + " STATUS): how many WELLS there were. BAD.");
        leaves("board", of(26), theMain());
        leaves("board", of(7), theMain());
        Due.says("behind a WELL that comes none may be");
        leaves("well", of(4, 6, 129), "WELLS", "KIND of 3", "WANTED of 3", "HOURS of 3", "HAD of 3", "DUE of 3",
            "undone");
        Due.says("A byte (0 .. 127) comes behind THE TEXT: how many it has.");
        leaves("type", of(';'), "THE TEXT");
        Due.says("THE TEXT is empty: how many it had.");
        leaves("clear", of(), "THE TEXT");
        Due.says("A MAIN that is read takes the place of all but IMAGES, THE TEXT, THE FRACTION, STATUS (LEFT ones,"
            + " NOTES none; nothing to undo).");
        leaves("read", of(), theMain());
        changes(3);
        told();
        Due.says("`int image(int i)`: An IMAGE is kept: 1. BAD.");
        leaves("image", of(0), "IMAGE 0");
        leaves("image", of(1), "IMAGE 1");
        Due.says("`int from(int i)`: It goes on from an IMAGE: 1. BAD; NO: none was kept.");
        leaves("from", of(0), theMain());
        leaves("from", of(1), "STATUS");
        questions(3);
        refusals();
    }

    private static void changes(int wells) {
        Due.says("the DAY is one more.");
        leaves("day", of(30), all("DAY", "of each HAD", "of each DUE", "undone"));
        for (int i = 0; i < wells; i++) {
            Due.says("`int turn(int i, int hours)`: HOURS (bits) in which a WELL is OPEN: those ahead of it. BAD.");
            leaves("turn", of(i, 96), "HOURS of " + i, "undone");
            Due.says("`int want(int i, int q)`: What is WANTED of a WELL (1 .. 20): what was. BAD.");
            leaves("want", of(i, 17), "WANTED of " + i, "undone");
        }
        Due.says("`int press(int pressure)`: THE MAIN's PRESSURE: what it was. BAD.");
        leaves("press", of(53), "PRESSURE", "undone");
        Due.says("UNDO: HAD, DUE, HOURS, WANTED, THE MAIN's PRESSURE, the DAY as ahead of the last");
        leaves("undo", of(), all("PRESSURE*", "DAY*", "of each HOURS", "of each WANTED", "of each HAD", "of each DUE",
            "undone"));
    }

    private static void told() {
        Due.says("`int left(int h, int x)`: LEFT: how many there are. BAD; FULL: 4.");
        leaves("left", of(0, 14), "LEFT ones");
        Due.says("`int note(int i, int q, int h, int p, int g, int d)`: A NOTE: how many there are. BAD; FULL: 6.");
        leaves("note", of(0, 8, 1, 26, 16, 17), "NOTES");
        forgets();
        Due.says("what a WELL GETS in it, in the mean: THE FRACTION.");
        leaves("noons", of(0, 1, 3), "THE FRACTION");
    }

    private static void forgets() {
        Due.says("`int forget(int what)`: No LEFT ones (0), NOTES (1): how many there were. BAD.");
        leaves("forget", of(0), "LEFT ones");
        leaves("forget", of(1), "NOTES");
    }

    private static void allFull() {
        Due.says("all but IMAGES, THE TEXT, THE FRACTION, STATUS");
        leaves("board", of(60), theMain());
        leaves("read", of(), theMain());
        leaves("from", of(0), theMain());
        leaves("from", of(1), theMain());
        leaves("clear", of(), "THE TEXT");
        changes(5);
        forgets();
        leaves("noons", of(4, 3, 5), "THE FRACTION");
        leaves("image", of(0), "IMAGE 0");
        leaves("image", of(1), "IMAGE 1");
        questions(5);
        refusals();
        Due.says("FULL -4 (where others are told they count as these)");
        leaves("well", of(0, 1, 0), "STATUS");
        leaves("type", of(0), "STATUS");
        leaves("left", of(0, 0), "STATUS");
        leaves("note", of(0, 1, 0, 0, 0, 0), "STATUS");
    }

    private static void questions(int wells) {
        Due.says("(Nothing is changed by these.)");
        for (Calls.Call c : asked(wells)) leaves(c.name(), c.values());
    }

    /** One of each, of the last well. */
    private static List<Calls.Call> asked(int wells) {
        List<Calls.Call> calls = new ArrayList<>();
        for (String name : new String[] {"turns", "fair", "swaps"}) add(calls, name, -1);
        add(calls, "daily", -1, 1);
        add(calls, "least");
        add(calls, "drew", 1);
        add(calls, "years", 999999, 60);
        add(calls, "part", 1);
        add(calls, "status", 2);
        add(calls, "count", 8);
        add(calls, "digest");
        add(calls, "swaps", 44);
        if (wells == 0) return calls;
        int i = wells - 1;
        add(calls, "of", i, 4);
        add(calls, "hour", i, 7, 2);
        add(calls, "daily", i, 0);
        add(calls, "turns", i);
        add(calls, "fair", i);
        add(calls, "shut", i);
        add(calls, "is", i);
        add(calls, "look", i);
        add(calls, "inspector", i, wells == 3 ? 7 : 2);
        return calls;
    }

    private static void refusals() {
        Due.says("Refused, changing nothing but STATUS");
        for (String name : Calls.NAMES) {
            String ranges = Calls.ranges(name);
            if (ranges.isEmpty()) continue;
            int[] values = new int[ranges.length()];
            for (int k = 0; k < values.length; k++) values[k] = Calls.low(ranges.charAt(k)) - 1;
            leaves(name, values, "STATUS");
        }
        leaves("inspector", of(1, 6), "STATUS");
    }

    /** A change and its undo leave nothing behind but that the eldest of eight is gone. */
    private static void undoneAgain() {
        Due.says("as ahead of the last DAYS gone by, turn, want, PRESSURE told (8 at most;");
        for (int state = 0; state < 2; state++) {
            in(state == 0 ? "three wells" : "all full", state == 0 ? three() : States.full());
            for (String change : new String[] {"day 5", "turn 1 6", "want 2 20", "press 3"}) {
                String[] parts = change.split(" ");
                int[] values = new int[parts.length - 1];
                for (int k = 0; k < values.length; k++) values[k] = Integer.parseInt(parts[k + 1]);
                List<Calls.Call> calls = new ArrayList<>(script);
                add(calls, parts[0], values);
                add(calls, "undo");
                Map<String, List<Long>> behind = held(calls);
                for (String what : before.keySet()) {
                    if (state == 1 && what.equals("undone")) continue;
                    Due.due(change + " undone leaves " + what, same(what, behind) ? 1 : 0, 1);
                }
            }
        }
    }

    /** Two objects asked in turns answer as each of them does alone. */
    private static void twoObjects() {
        Due.says("An object is used for at most 512 calls after it has been made;");
        List<Calls.Call> one = new ArrayList<>(three());
        one.addAll(States.questions(3));
        List<Calls.Call> other = new ArrayList<>(States.full());
        other.addAll(States.questions(5));
        List<Long> oneAlone = answers(one);
        List<Long> otherAlone = answers(other);
        Counted m = new Counted();
        Counted n = new Counted();
        for (int k = 0; k < Math.max(one.size(), other.size()); k++) {
            if (k < one.size()) {
                Due.due("of two: " + one.get(k), m.ask(one.get(k).name(), one.get(k).values()), oneAlone.get(k));
            }
            if (k < other.size()) {
                Due.due("of two: " + other.get(k), n.ask(other.get(k).name(), other.get(k).values()),
                    otherAlone.get(k));
            }
        }
    }

    private static List<Long> answers(List<Calls.Call> calls) {
        Counted m = new Counted();
        List<Long> all = new ArrayList<>();
        for (Calls.Call c : calls) all.add(m.ask(c.name(), c.values()));
        return all;
    }

    /** All that an object holds behind these calls. */
    private static Map<String, List<Long>> held(List<Calls.Call> calls) {
        Map<String, List<Long>> all = new LinkedHashMap<>();
        Counted m = Counted.by(calls);
        all.put("STATUS", List.of(m.ask("status", 0), m.ask("status", 1), m.ask("status", 2)));
        all.put("THE FRACTION", List.of(m.ask("part", 0), m.ask("part", 1)));
        all.put("WELLS", List.of(m.ask("count", 0)));
        all.put("PRESSURE", List.of(m.ask("count", 1)));
        all.put("DAY", List.of(m.ask("count", 2)));
        for (int i = 0; i < 5; i++) {
            for (int what = 0; what < 5; what++) all.put(OF[what] + i, List.of(m.ask("of", i, what)));
        }
        all.put("THE TEXT", text(Counted.by(calls)));
        all.put("LEFT ones", told(Counted.by(calls), 5, 1));
        all.put("NOTES", told(Counted.by(calls), 6, 0));
        all.put("undone", undone(Counted.by(calls)));
        for (int i = 0; i < 2; i++) {
            m = Counted.by(calls);
            List<Long> image = new ArrayList<>(List.of(m.ask("from", i)));
            if (image.get(0) == 1) {
                image.addAll(mainOf(m));
                image.add(tail(m));
                image.addAll(undone(m));
            }
            all.put("IMAGE " + i, image);
        }
        return all;
    }

    private static List<Long> mainOf(Counted m) {
        List<Long> all = new ArrayList<>();
        for (int what = 0; what < 3; what++) all.add(m.ask("count", what));
        for (int i = 0; i < all.get(0); i++) {
            for (int what = 0; what < 5; what++) all.add(m.ask("of", i, what));
        }
        return all;
    }

    /** A text is known by what is read from it. */
    private static List<Long> text(Counted m) {
        List<Long> all = new ArrayList<>(List.of(m.ask("count", 8), m.ask("read")));
        if (all.get(1) > 0) all.addAll(mainOf(m));
        all.add(m.ask("clear"));
        return all;
    }

    /** Of LEFT ones or NOTES how many, and what they are: the others are forgotten first. */
    private static List<Long> told(Counted m, int what, int others) {
        m.ask("forget", others);
        return List.of(m.ask("count", what), tail(m));
    }

    /** What LEFT ones and NOTES add to the digest: all the rest of it is asked for and taken off. */
    private static long tail(Counted m) {
        long h = 1439;
        for (int what = 0; what <= 8; what++) h = 31 * h + m.ask("count", what);
        for (int i = 0; i < m.ask("count", 0); i++) {
            for (int what = 0; what < 5; what++) h = 31 * h + m.ask("of", i, what);
        }
        long more = 2 * m.ask("count", 5) + 6 * m.ask("count", 6) + 2;
        for (int k = 0; k < more; k++) h *= 31;
        return m.ask("digest") - h - 31 * m.ask("part", 0) - m.ask("part", 1);
    }

    private static List<Long> undone(Counted m) {
        List<Long> all = new ArrayList<>(List.of(m.ask("count", 7)));
        while (all.get(all.size() - 1) != -3) {
            all.add(m.ask("undo"));
            if (all.get(all.size() - 1) != -3) all.addAll(1, mainOf(m));
        }
        return all;
    }
}
