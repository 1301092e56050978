import java.util.ArrayList;
import java.util.List;

/** Runs of calls that bring a new object to where its edges are, and all that can be asked of it there. */
final class States {
    /** A text of 150 bytes that reads: 8 items, the last ; at place 149. */
    static final String FULL_TEXT = padded("main 47;well 5 20 0 1 2 3 4 5 6 7;well 4 13 0 1 3 7;"
        + "well 3 20 1 6;well 2 9 7;well1 10 2 4;turn 0 1 2 3;day;");

    private States() {
    }

    /** Blanks ahead of the last ; make it 150 bytes. */
    static String padded(String text) {
        int last = text.length() - 1;
        return text.substring(0, last) + " ".repeat(150 - text.length()) + text.substring(last);
    }

    private static void add(List<Calls.Call> script, String name, int... values) {
        script.add(new Calls.Call(name, values));
    }

    private static void type(List<Calls.Call> script, String text) {
        for (char c : text.toCharArray()) add(script, "type", c);
    }

    /** No wells, nothing told. */
    static List<Calls.Call> bare() {
        return List.of();
    }

    /** One well; a text of one byte; one of each that may be had. */
    static List<Calls.Call> one() {
        List<Calls.Call> script = new ArrayList<>();
        add(script, "well", 3, 7, 129);
        add(script, "day", 2);
        add(script, "left", 7, 23);
        add(script, "note", 0, 5, 1, 9, 5, 0);
        add(script, "image", 1);
        add(script, "noons", 0, 7, 9);
        add(script, "type", ';');
        return script;
    }

    /** Five wells, four LEFT ones, six NOTES, eight that may be undone, both images, 150 bytes, all refusals. */
    static List<Calls.Call> full() {
        List<Calls.Call> script = new ArrayList<>();
        add(script, "undo");
        add(script, "board", 23);
        add(script, "well", 0, 9, 255);
        add(script, "well", 1, 20, 129);
        add(script, "well", 2, 3, 54);
        add(script, "well", 3, 14, 1);
        add(script, "image", 0);
        add(script, "press", 19);
        add(script, "image", 1);
        add(script, "well", 4, 6, 12);
        for (int k = 0; k < 4; k++) add(script, "left", 2 * k, 10);
        for (int k = 0; k < 6; k++) add(script, "note", k % 3, 5, k, 20, 5, 5 + k % 2);
        add(script, "noons", 2, 2, 3);
        add(script, "day", 30);
        add(script, "turn", 2, 255);
        add(script, "want", 3, 8);
        add(script, "press", 27);
        add(script, "day", 1);
        add(script, "turn", 0, 85);
        add(script, "want", 1, 19);
        add(script, "press", 21);
        add(script, "day", 7);
        add(script, "want", 4, 5);
        add(script, "well", 0, 1, 0);
        add(script, "board", 61);
        type(script, FULL_TEXT);
        return script;
    }

    /** What can be asked and changes nothing, and no call of it is refused. */
    static List<Calls.Call> questions(int wells) {
        List<Calls.Call> asked = new ArrayList<>();
        for (int what = 0; what <= 8; what++) add(asked, "count", what);
        for (int i = 0; i < wells; i++) {
            for (int what = 0; what <= 4; what++) add(asked, "of", i, what);
            add(asked, "hour", i, 2 * i & 7, 0);
            add(asked, "hour", i, 2 * i & 7, 1);
            add(asked, "daily", i, 1);
            add(asked, "shut", i);
            add(asked, "is", i);
            add(asked, "look", i);
        }
        add(asked, "daily", -1, 0);
        add(asked, "daily", -1, 1);
        add(asked, "turns", -1);
        add(asked, "fair", -1);
        add(asked, "least");
        for (int what = 0; what <= 2; what++) add(asked, "drew", what);
        add(asked, "swaps", -1);
        add(asked, "swaps", 0);
        add(asked, "years", 7, 3);
        add(asked, "part", 0);
        add(asked, "part", 1);
        add(asked, "digest");
        return asked;
    }

    /** What is kept deeper down: it is brought up, image by image, undo by undo; at last the text is read. */
    static List<Calls.Call> depths() {
        List<Calls.Call> asked = new ArrayList<>();
        undoAll(asked);
        for (int i = 0; i < 2; i++) {
            add(asked, "from", i);
            add(asked, "digest");
            undoAll(asked);
        }
        add(asked, "read");
        add(asked, "digest");
        add(asked, "clear");
        return asked;
    }

    private static void undoAll(List<Calls.Call> asked) {
        for (int k = 0; k < 9; k++) {
            add(asked, "undo");
            add(asked, "digest");
        }
    }

    /** All of both; the answers of two objects are alike just when what they hold is. */
    static long[] picture(Counted m, int wells) {
        List<Calls.Call> asked = questions(wells);
        asked.addAll(depths());
        long[] answers = new long[asked.size()];
        for (int k = 0; k < answers.length; k++) answers[k] = m.ask(asked.get(k).name(), asked.get(k).values());
        return answers;
    }
}
