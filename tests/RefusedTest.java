import java.util.Arrays;
import java.util.List;

/** What STATUS says behind each kind of answer, and that nothing else is changed by a refused call. */
public final class RefusedTest {
    private static final int NO = 1, FULL = 2;

    public static void main(String[] args) {
        noIsCounted();
        fullIsCounted();
        othersAreCountedAsBad();
        badIsFirst();
        noRefusals();
        faultsAreNoRefusals();
        statusIsKept();
        many();
        questionsChangeNothing();
        Due.end();
    }

    /** One refused call in a state: which of STATUS is one more, and a picture like the one without it. */
    private static void refused(List<Calls.Call> script, int wells, int which, long answer, String name, int... values) {
        Counted without = Counted.by(script);
        Counted m = Counted.by(script);
        long digest = m.ask("digest");
        String told = name + Arrays.toString(values) + " of " + wells + " wells";
        Due.due(told, m.ask(name, values), answer);
        Due.due("digest behind " + told, m.ask("digest"), digest);
        for (int what = 0; what < 3; what++) {
            Due.due("status(" + what + ") behind " + told, m.ask("status", what),
                without.ask("status", what) + (what == which ? 1 : 0));
        }
        Due.due("where a picture behind " + told + " differs",
            Arrays.mismatch(States.picture(m, wells), States.picture(without, wells)), -1);
    }

    private static void noIsCounted() {
        Due.says("`int undo()`: UNDO: the DAY then. NO: none may be.");
        refused(States.bare(), 0, NO, -3, "undo");
        Due.says("`int from(int i)`: It goes on from an IMAGE: 1. BAD; NO: none was kept.");
        refused(States.bare(), 0, NO, -3, "from", 0);
        refused(States.bare(), 0, NO, -3, "from", 1);
        refused(States.one(), 1, NO, -3, "from", 0);
        Due.says("`int inspector(int i, int h)`: INSPECTOR, as bits. BAD; NO.");
        refused(States.one(), 1, NO, -3, "inspector", 0, 1);
        refused(States.one(), 1, NO, -3, "inspector", 0, 6);
        refused(States.full(), 5, NO, -3, "inspector", 0, 7);
        refused(States.full(), 5, NO, -3, "inspector", 4, 0);
    }

    private static void fullIsCounted() {
        Due.says("`int well(int kind, int wanted, int hours)`: A WELL: its number. BAD; FULL: 5.");
        refused(States.full(), 5, FULL, -4, "well", 0, 1, 0);
        refused(States.full(), 5, FULL, -4, "well", 5, 20, 255);
        Due.says("`int type(int c)`: A byte (0 .. 127) comes behind THE TEXT: how many it has. BAD; FULL.");
        refused(States.full(), 5, FULL, -4, "type", 0);
        refused(States.full(), 5, FULL, -4, "type", 32);
        refused(States.full(), 5, FULL, -4, "type", 127);
        Due.says("`int left(int h, int x)`: LEFT: how many there are. BAD; FULL: 4.");
        refused(States.full(), 5, FULL, -4, "left", 0, 0);
        refused(States.full(), 5, FULL, -4, "left", 7, 60);
        Due.says("`int note(int i, int q, int h, int p, int g, int d)`: A NOTE: how many there are. BAD; FULL: 6.");
        refused(States.full(), 5, FULL, -4, "note", 0, 1, 0, 0, 0, 0);
        refused(States.full(), 5, FULL, -4, "note", 4, 20, 7, 60, 40, 80);
    }

    private static void othersAreCountedAsBad() {
        Due.says("(where others are told they count as these)");
        refused(States.one(), 1, 0, -10, "turns", 1);
        refused(States.one(), 1, 0, -10, "turns", -2);
        refused(States.one(), 1, 0, -10, "fair", 1);
        refused(States.one(), 1, 0, -10, "fair", -2);
        refused(States.one(), 1, 0, -10, "swaps", -2);
        Due.says("-1: another what (counts as BAD).");
        refused(States.one(), 1, 0, -1, "status", 3);
        refused(States.one(), 1, 0, -1, "status", -1);
        refused(States.one(), 1, 0, -1, "status", Integer.MIN_VALUE);
        refused(States.one(), 1, 0, -1, "status", Integer.MAX_VALUE);
    }

    private static void badIsFirst() {
        Due.says("Refused, changing nothing but STATUS, the first of: BAD -2 a number is not as told; NO -3 as told;"
            + " FULL -4");
        refused(States.full(), 5, 0, -2, "well", 6, 1, 0);
        refused(States.full(), 5, 0, -2, "well", 0, 0, 0);
        refused(States.full(), 5, 0, -2, "well", 0, 1, 256);
        refused(States.full(), 5, 0, -2, "type", 128);
        refused(States.full(), 5, 0, -2, "type", -1);
        refused(States.full(), 5, 0, -2, "left", 8, 0);
        refused(States.full(), 5, 0, -2, "left", 0, 61);
        refused(States.full(), 5, 0, -2, "note", 5, 1, 0, 0, 0, 0);
        refused(States.full(), 5, 0, -2, "note", 0, 1, 0, 0, 0, 81);
        refused(States.full(), 5, 0, -2, "inspector", 5, 7);
        refused(States.full(), 5, 0, -2, "inspector", 0, 8);
        refused(States.bare(), 0, 0, -2, "inspector", 0, 0);
        refused(States.bare(), 0, 0, -2, "from", 2);
        refused(States.bare(), 0, 0, -2, "from", -1);
    }

    /** NONE and -5 are answers, and no more. */
    private static void noRefusals() {
        Due.says("STATUS: how many calls were refused as BAD, NO, FULL (each answer told so below is such a one).");
        WishMeter x = Due.main(10, 4, 10, 2, 4, 10, 2, 4, 10, 2, 4, 10, 2, 4, 10, 2);
        Due.due("fair(NONE)", x.fair(-1), -1);
        Due.due("fair(4)", x.fair(4), -1);
        Due.due("shut(0)", x.shut(0), -1);
        Due.due("swaps(0)", x.swaps(0), -5);
        Due.due("swaps(most)", x.swaps(Integer.MAX_VALUE), -5);
        x.left(1, 1);
        Due.due("drew(1)", x.drew(1), -1);
        x.note(0, 1, 0, 0, 1, 1);
        Due.due("look(0)", x.look(0), -1);
        x.board(0);
        for (int k = 0; k < 3; k++) x.well(5, 20, 1);
        Due.due("least()", x.least(), -1);
        Due.status(x, 0, 0, 0);
    }

    private static void faultsAreNoRefusals() {
        Due.says("`int read()`: THE MAIN is read: how many ITEMS. -10 less the FAULT: all stays.");
        faultStays(States.bare(), 0, -10);
        faultStays(States.one(), 1, -10);
        WishMeter x = Due.main(10, 4, 10, 2);
        for (String text : new String[] {"", "m", "main", "main 61;", "main 1;turn 0;", "main 5;day"}) {
            Due.type(x, text);
            Due.due("a fault of " + text, x.read() <= -10 ? 1 : 0, 1);
        }
        Due.status(x, 0, 0, 0);
    }

    private static void faultStays(List<Calls.Call> script, int wells, long answer) {
        Counted without = Counted.by(script);
        Counted m = Counted.by(script);
        Due.due("read() of " + wells + " wells", m.ask("read"), answer);
        for (int what = 0; what < 3; what++) {
            Due.due("status(" + what + ")", m.ask("status", what), without.ask("status", what));
        }
        Due.due("where a picture behind a fault differs",
            Arrays.mismatch(States.picture(m, wells), States.picture(without, wells)), -1);
    }

    private static void statusIsKept() {
        Due.says("(but for IMAGES, THE TEXT, THE FRACTION, STATUS)");
        WishMeter x = new WishMeter();
        x.image(1);
        x.board(61);
        x.undo();
        for (int k = 0; k < 6; k++) x.well(0, 1, 1);
        Due.status(x, 1, 1, 1);
        x.board(3);
        Due.status(x, 1, 1, 1);
        x.from(1);
        Due.status(x, 1, 1, 1);
        Due.type(x, "main 1;");
        x.read();
        Due.status(x, 1, 1, 1);
        x.press(1);
        x.undo();
        x.image(0);
        Due.status(x, 1, 1, 1);
    }

    private static void many() {
        Due.says("`int status(int what)`: STATUS: BAD (0), NO (1), FULL (2).");
        WishMeter x = Due.main(1, 0, 1, 1, 0, 1, 1, 0, 1, 1, 0, 1, 1, 0, 1, 1);
        for (int k = 0; k < 160; k++) x.press(61 + k);
        for (int k = 0; k < 150; k++) x.undo();
        for (int k = 0; k < 140; k++) x.well(0, 1, 1);
        Due.status(x, 160, 150, 140);
    }

    private static void questionsChangeNothing() {
        Due.says("(Nothing is changed by these.)");
        Counted without = Counted.by(States.full());
        long[] picture = States.picture(without, 5);
        Counted m = Counted.by(States.full());
        long digest = m.ask("digest");
        for (int i = -1; i < 5; i++) {
            for (String name : new String[] {"turns", "fair", "swaps"}) unchanged(m, digest, name, i);
            for (int what = 0; what < 2; what++) unchanged(m, digest, "daily", i, what);
        }
        for (int i = 0; i < 5; i++) {
            for (String name : new String[] {"shut", "is", "look"}) unchanged(m, digest, name, i);
            for (int what = 0; what < 3; what++) unchanged(m, digest, "hour", i, i + 3, what);
        }
        for (int what = 0; what < 3; what++) unchanged(m, digest, "drew", what);
        unchanged(m, digest, "least");
        unchanged(m, digest, "inspector", 0, 6);
        unchanged(m, digest, "inspector", 3, 0);
        unchanged(m, digest, "years", 999999, 60);
        Due.due("where a picture behind all differs", Arrays.mismatch(States.picture(m, 5), picture), -1);
    }

    private static void unchanged(Counted m, long digest, String name, int... values) {
        m.ask(name, values);
        Due.due("digest behind " + name + Arrays.toString(values), m.ask("digest"), digest);
    }
}
