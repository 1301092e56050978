import java.util.ArrayList;
import java.util.Arrays;
import java.util.List;
import java.util.TreeSet;

/**
 * Each number of each call, over the whole range of int: the last that stands and the first that does not, on
 * both sides. What stands is answered as the oracle does; what does not is refused as BAD, counted once, and
 * changes nothing else, whatever the other numbers are.
 */
public final class RangesTest {
    /** For a refused call, the digest and STATUS behind it. */
    private static final int CALLS_EACH = 5;

    private final List<Calls.Call> script;
    private final int wells;
    private final long[] picture;
    private final long[] status;
    private Counted m;

    private RangesTest(List<Calls.Call> script, int wells) {
        this.script = script;
        this.wells = wells;
        m = Counted.by(script);
        status = new long[] {m.ask("status", 0), m.ask("status", 1), m.ask("status", 2)};
        picture = States.picture(m, wells);
    }

    public static void main(String[] args) {
        Due.due("bytes of the full text", States.FULL_TEXT.length(), 150);
        new RangesTest(States.bare(), 0).run();
        new RangesTest(States.one(), 1).run();
        new RangesTest(States.full(), 5).run();
        Due.end();
    }

    private void run() {
        for (String name : Calls.NAMES) {
            String ranges = Calls.ranges(name);
            for (int at = 0; at < ranges.length(); at++) {
                refuses(name, ranges, at, false);
                stands(name, ranges, at, false);
                if (ranges.length() == 1) continue;
                refuses(name, ranges, at, true);
                stands(name, ranges, at, true);
            }
            if (ranges.length() > 1) refusesAllBad(name, ranges);
        }
    }

    /** The others are the least that stand, or the most. */
    private int[] values(String ranges, int at, int value, boolean most) {
        int[] values = new int[ranges.length()];
        for (int k = 0; k < values.length; k++) {
            char range = ranges.charAt(k);
            values[k] = most ? Math.max(Calls.low(range), Calls.high(range, wells)) : Calls.low(range);
        }
        values[at] = value;
        return values;
    }

    /** Numbers near the edges, near those of int, and such as a cut to fewer bits would take for others. */
    private static TreeSet<Integer> wholeRange(int low, int high) {
        TreeSet<Integer> all = new TreeSet<>();
        for (int edge : new int[] {low, high, 0, Integer.MIN_VALUE, Integer.MAX_VALUE}) {
            for (int by = -2; by <= 2; by++) all.add(edge + by);
        }
        for (int bit = 3; bit < 32; bit++) {
            all.add(low + (1 << bit));
            all.add(high - (1 << bit));
            all.add(high + (1 << bit));
            all.add(low - (1 << bit));
        }
        return all;
    }

    private void refuses(String name, String ranges, int at, boolean most) {
        int low = Calls.low(ranges.charAt(at));
        int high = Calls.high(ranges.charAt(at), wells);
        List<int[]> refused = new ArrayList<>();
        for (int value : wholeRange(low, high)) {
            if (value < low || value > high) refused.add(values(ranges, at, value, most));
        }
        refuseAll(name, refused);
    }

    private void refusesAllBad(String name, String ranges) {
        List<int[]> refused = new ArrayList<>();
        for (int edge = 0; edge < 4; edge++) {
            int[] values = new int[ranges.length()];
            for (int k = 0; k < values.length; k++) {
                char range = ranges.charAt(k);
                values[k] = edge == 0 ? Calls.low(range) - 1 : edge == 1 ? Calls.high(range, wells) + 1
                    : edge == 2 ? Integer.MIN_VALUE : Integer.MAX_VALUE;
            }
            refused.add(values);
        }
        refuseAll(name, refused);
    }

    private void refuseAll(String name, List<int[]> refused) {
        int next = 0;
        while (next < refused.size()) {
            m = Counted.by(script);
            long digest = m.ask("digest");
            int asked = 0;
            while (next < refused.size() && m.rest() >= picture.length + CALLS_EACH) {
                int[] values = refused.get(next);
                String told = name + Arrays.toString(values) + " of " + wells + " wells";
                Due.due(told, m.ask(name, values), Calls.badAnswer(name));
                asked++;
                Due.due("digest behind " + told, m.ask("digest"), digest);
                statusIs(told, asked);
                next++;
            }
            Due.due("a picture behind " + asked + " refused calls of " + name + " of " + wells + " wells",
                Arrays.mismatch(States.picture(m, wells), picture), -1);
        }
    }

    private void statusIs(String told, int bads) {
        for (int what = 0; what < 3; what++) {
            Due.due("status " + what + " behind " + told, m.ask("status", what), status[what] + (what == 0 ? bads : 0));
        }
    }

    private void stands(String name, String ranges, int at, boolean most) {
        int low = Calls.low(ranges.charAt(at));
        int high = Calls.high(ranges.charAt(at), wells);
        for (int k = 0; k < ranges.length(); k++) {
            if (Calls.high(ranges.charAt(k), wells) < Calls.low(ranges.charAt(k))) return;
        }
        for (int value : new TreeSet<>(List.of(low, low + 1, high - 1, high))) {
            if (value < low || value > high) continue;
            int[] values = values(ranges, at, value, most);
            String told = name + Arrays.toString(values) + " of " + wells + " wells";
            m = Counted.by(script);
            Oracle oracle = new Oracle();
            for (Calls.Call c : script) Calls.ask(oracle, c.name(), c.values());
            Due.due(told, m.ask(name, values), Calls.ask(oracle, name, values));
            if (!name.equals("status")) Due.due("BAD behind " + told, m.ask("status", 0), status[0]);
            for (String asked : new String[] {"digest", "undo", "digest", "read", "digest"}) {
                Due.due(asked + " behind " + told, m.ask(asked), Calls.ask(oracle, asked));
            }
        }
    }
}
