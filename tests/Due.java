import java.io.IOException;
import java.io.UncheckedIOException;
import java.nio.file.Files;
import java.nio.file.Path;
import java.util.ArrayList;
import java.util.List;

/** What the tests share: answers told against those that are due. */
final class Due {
    private static final List<String> wrongs = new ArrayList<>();
    private static int asked = 0;
    private static String part = "";
    private static String document = "";

    private Due() {
    }

    static void promise(int number) {
        part = "promise " + number + ": ";
    }

    /** The sentence of the document that the next answers hold it to; it must stand there by its very words. */
    static void says(String sentence) {
        part = "\"" + sentence + "\": ";
        due("places in DOC.md", document().contains(sentence) ? 1 : 0, 1);
    }

    private static String document() {
        if (document.isEmpty()) {
            try {
                document = Files.readString(Path.of("../shared/DOC.md")).replaceAll("\\s+", " ");
            } catch (IOException e) {
                throw new UncheckedIOException(e);
            }
        }
        return document;
    }

    static void due(String call, long got, long want) {
        asked++;
        if (got != want) wrongs.add(part + call + " answered " + got + ", due is " + want);
    }

    static void type(WishMeter x, String text) {
        x.clear();
        for (int k = 0; k < text.length(); k++) x.type(text.charAt(k));
    }

    /** A main by its wells, each told as kind, wanted, hours. */
    static WishMeter main(int pressure, int... wells) {
        WishMeter x = new WishMeter();
        x.board(pressure);
        for (int k = 0; k + 2 < wells.length; k += 3) x.well(wells[k], wells[k + 1], wells[k + 2]);
        return x;
    }

    /** A main by a text. */
    static WishMeter read(String text) {
        WishMeter x = new WishMeter();
        type(x, text);
        x.read();
        return x;
    }

    static void status(WishMeter x, int bad, int no, int full) {
        due("status(0)", x.status(0), bad);
        due("status(1)", x.status(1), no);
        due("status(2)", x.status(2), full);
    }

    static long digestOf(long... values) {
        long h = 1439;
        for (long v : values) h = 31 * h + v;
        return h;
    }

    static void end() {
        for (String wrong : wrongs) System.out.println(wrong);
        System.out.println(asked + " answers, " + wrongs.size() + " wrong");
        if (!wrongs.isEmpty() || asked == 0) System.exit(1);
    }
}
