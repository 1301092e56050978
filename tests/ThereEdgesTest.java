import java.math.BigInteger;

/** The edges of what there is: the fraction, images, STATUS, the counts, the digest. */
public final class ThereEdgesTest {
    private static final int PLAIN = 0, TOWN = 1, WIRE = 3, RUNNING = 5;
    private static final int LEAST = Integer.MIN_VALUE, MOST = Integer.MAX_VALUE;

    public static void main(String[] args) {
        part();
        fractionIsKept();
        imageNumbers();
        imagesKeep();
        imagesKeepNot();
        imageUndo();
        imageOfNothing();
        imagesBehindAll();
        from();
        status();
        countOfNone();
        countOfMost();
        countRefused();
        digestOrder();
        digestWraps();
        Due.end();
    }

    private static void part() {
        Due.says("`long part(int what)`: THE FRACTION: above (0), below (1). BAD.");
        WishMeter x = Due.main(1, PLAIN, 1, 1);
        Due.due("above at first", x.part(0), 0);
        Due.due("below at first", x.part(1), 1);
        x.noons(0, 0, 1);
        Due.due("above", x.part(0), 9);
        Due.due("below", x.part(1), 10);
        for (int bad : new int[] {-1, 2, 3, 256, LEAST, MOST}) Due.due("part(" + bad + ")", x.part(bad), -2);
        x.noons(0, 0, 10);
        Due.due("above", x.part(0), 0);
        Due.due("below", x.part(1), 1);
        Due.status(x, 6, 0, 0);
    }

    private static void fractionIsKept() {
        Due.says("(but for IMAGES, THE TEXT, THE FRACTION, STATUS)");
        WishMeter x = Due.main(1, PLAIN, 1, 1);
        x.image(0);
        x.noons(0, 0, 3);
        String[] behind = {"board", "well", "press", "day", "undo", "from", "read"};
        for (String call : behind) {
            switch (call) {
                case "board" -> x.board(50);
                case "well" -> x.well(PLAIN, 20, 255);
                case "press" -> x.press(10);
                case "day" -> x.day(1);
                case "undo" -> x.undo();
                case "from" -> x.from(0);
                default -> {
                    Due.type(x, "main 5;");
                    x.read();
                }
            }
            Due.due("above behind " + call, x.part(0), 7);
            Due.due("below behind " + call, x.part(1), 10);
        }
    }

    private static void imageNumbers() {
        Due.says("`int image(int i)`: An IMAGE is kept: 1. BAD.");
        WishMeter x = new WishMeter();
        for (int bad : new int[] {-1, 2, 3, 256, LEAST, MOST}) {
            Due.due("image(" + bad + ")", x.image(bad), -2);
            Due.due("from(" + bad + ")", x.from(bad), -2);
        }
        Due.due("none was kept", x.from(0), -3);
        Due.due("none was kept", x.from(1), -3);
        Due.due("image(1)", x.image(1), 1);
        Due.due("none was kept of 0", x.from(0), -3);
        Due.due("from(1)", x.from(1), 1);
        Due.due("image(0)", x.image(0), 1);
        Due.due("from(0)", x.from(0), 1);
        Due.status(x, 12, 3, 0);
    }

    private static void imagesKeep() {
        Due.says("IMAGES 0, 1 keep all but them, THE TEXT, THE FRACTION and STATUS;");
        WishMeter x = Due.main(33, PLAIN, 5, 255, TOWN, 7, 3, WIRE, 1, 1, PLAIN, 2, 2, RUNNING, 3, 128);
        x.day(3);
        for (int k = 0; k < 4; k++) x.left(2 * k, k);
        for (int k = 0; k < 6; k++) x.note(k % 5, 1 + k, k, 2 * k, 3 * k, 4 * k);
        long first = x.digest();
        x.image(0);
        x.want(0, 20);
        x.turn(4, 1);
        x.press(60);
        x.day(30);
        x.forget(0);
        x.forget(1);
        x.left(7, 7);
        x.note(4, 20, 7, 60, 40, 80);
        long second = x.digest();
        x.image(1);
        x.board(2);
        x.well(WIRE, 9, 9);
        x.left(1, 1);
        x.note(0, 1, 1, 1, 1, 1);
        x.press(3);
        long third = x.digest();
        x.from(0);
        Due.due("the first", x.digest(), first);
        x.from(1);
        Due.due("the second", x.digest(), second);
        x.from(0);
        Due.due("the first again", x.digest(), first);
        Due.due("LEFT as they were", x.left(0, 0), -4);
        Due.due("NOTES as they were", x.note(0, 1, 0, 0, 0, 0), -4);
        x.forget(0);
        x.day(1);
        x.turn(2, 0);
        x.want(1, 1);
        x.from(0);
        Due.due("what came behind it is none of it", x.digest(), first);
        Due.due("the third was another", third == first || third == second ? 1 : 0, 0);
    }

    private static void imagesKeepNot() {
        WishMeter x = Due.main(1, PLAIN, 1, 1);
        Due.type(x, "ma");
        x.noons(0, 0, 9);
        x.press(61);
        x.image(0);
        x.image(1);
        x.type('i');
        x.noons(0, 0, 8);
        x.press(61);
        x.undo();
        x.from(0);
        Due.due("THE TEXT goes on", x.type('n'), 4);
        Due.due("above goes on", x.part(0), 1);
        Due.due("below goes on", x.part(1), 5);
        Due.status(x, 2, 1, 0);
        x.well(PLAIN, 1, 1);
        x.image(0);
        x.from(1);
        Due.due("one IMAGE is none of the other", x.count(0), 1);
        x.from(0);
        Due.due("it is kept", x.count(0), 2);
    }

    private static void imageUndo() {
        Due.says("what may be undone they keep; it goes on from one.");
        WishMeter x = Due.main(10, PLAIN, 1, 1);
        for (int k = 1; k <= 8; k++) x.press(10 + k);
        x.image(0);
        for (int k = 0; k < 8; k++) x.undo();
        x.image(1);
        Due.due("none of the second", x.undo(), -3);
        x.press(50);
        x.from(0);
        Due.due("eight of the first", x.count(7), 8);
        x.press(51);
        Due.due("eight at most", x.count(7), 8);
        int[] pressures = {18, 17, 16, 15, 14, 13, 12, 11};
        for (int p : pressures) {
            x.undo();
            Due.due("the pressure", x.count(1), p);
        }
        Due.due("none is left", x.undo(), -3);
        x.from(1);
        Due.due("none of the second", x.undo(), -3);
        Due.due("its pressure", x.count(1), 10);
        x.from(0);
        for (int k = 0; k < 8; k++) x.undo();
        Due.due("all of the first", x.count(1), 10);
        Due.due("none is left", x.undo(), -3);
    }

    private static void imageOfNothing() {
        WishMeter x = new WishMeter();
        long nothing = x.digest();
        Due.due("image(0)", x.image(0), 1);
        for (int k = 0; k < 5; k++) x.well(RUNNING, 20, 255);
        x.day(30);
        x.left(1, 1);
        x.note(0, 1, 1, 1, 1, 1);
        Due.due("from(0)", x.from(0), 1);
        Due.due("digest()", x.digest(), nothing);
        Due.due("a new well", x.well(PLAIN, 1, 1), 0);
        Due.due("had", x.of(0, 3), 0);
        Due.due("is(0)", x.is(0), 63);
    }

    private static void imagesBehindAll() {
        WishMeter x = Due.main(44, PLAIN, 1, 1);
        x.image(0);
        x.board(2);
        Due.due("behind a board", x.from(0), 1);
        Due.due("count(1)", x.count(1), 44);
        Due.type(x, "main 3;");
        x.read();
        Due.due("behind a text", x.from(0), 1);
        Due.due("count(1)", x.count(1), 44);
        Due.due("the other is none", x.from(1), -3);
        x.press(9);
        Due.due("kept anew", x.image(0), 1);
        x.press(8);
        x.from(0);
        Due.due("count(1)", x.count(1), 9);
        for (int k = 0; k < 200; k++) {
            x.image(k % 2);
            x.from(k % 2);
        }
        Due.due("behind many", x.count(1), 9);
        Due.status(x, 0, 1, 0);
    }

    private static void from() {
        Due.says("`int from(int i)`: It goes on from an IMAGE: 1. BAD; NO: none was kept.");
        WishMeter x = Due.main(44, PLAIN, 1, 1);
        long before = x.digest();
        x.press(43);
        x.undo();
        Due.due("from(0)", x.from(0), -3);
        Due.due("from(2)", x.from(2), -2);
        Due.due("digest()", x.digest(), before);
        x.press(42);
        x.image(0);
        Due.due("it goes on as it is", x.from(0), 1);
        Due.due("count(1)", x.count(1), 42);
        Due.due("undo()", x.undo(), 0);
        Due.due("count(1)", x.count(1), 44);
        Due.status(x, 1, 1, 0);
    }

    private static void status() {
        Due.says("`int status(int what)`: STATUS: BAD (0), NO (1), FULL (2). -1: another what (counts as BAD).");
        WishMeter x = new WishMeter();
        Due.status(x, 0, 0, 0);
        int bads = 0;
        for (int bad : new int[] {-1, 3, 4, 256, LEAST, MOST}) {
            Due.due("status(" + bad + ")", x.status(bad), -1);
            bads++;
            Due.status(x, bads, 0, 0);
        }
        x.undo();
        Due.status(x, bads, 1, 0);
        for (int k = 0; k < 5; k++) x.left(0, 0);
        Due.status(x, bads, 1, 1);
    }

    private static void countOfNone() {
        Due.says("`int count(int what)`: How many: 0 WELLS, 1 THE MAIN's PRESSURE, 2 the DAY, 3 HAD by all, 4 DUE by"
            + " all, 5 LEFT ones, 6 NOTES, 7 that may be undone, 8 bytes of THE TEXT. BAD.");
        WishMeter x = new WishMeter();
        x.board(0);
        for (int what = 0; what <= 8; what++) Due.due("count(" + what + ")", x.count(what), 0);
        Due.status(x, 0, 0, 0);
    }

    private static void countOfMost() {
        WishMeter x = Due.main(60, RUNNING, 20, 255, TOWN, 20, 255, PLAIN, 1, 1, PLAIN, 1, 1, WIRE, 1, 1);
        for (int k = 0; k < 4; k++) x.left(0, 0);
        for (int k = 0; k < 6; k++) x.note(0, 1, 0, 0, 0, 0);
        for (int k = 0; k < 34; k++) x.day(30);
        for (int k = 0; k < 150; k++) x.type(0);
        int[] most = {5, 60, 999, 999 * 480, 999 * 8 * 81, 4, 6, 8, 150};
        for (int what = 0; what <= 8; what++) Due.due("count(" + what + ")", x.count(what), most[what]);
        x.left(0, 0);
        x.note(0, 1, 0, 0, 0, 0);
        x.day(30);
        x.type(0);
        x.well(0, 1, 0);
        for (int what = 0; what <= 8; what++) Due.due("count(" + what + ")", x.count(what), most[what]);
        Due.status(x, 0, 0, 4);
    }

    private static void countRefused() {
        WishMeter x = new WishMeter();
        for (int bad : new int[] {-1, 9, 10, 256, 264, LEAST, MOST}) Due.due("count(" + bad + ")", x.count(bad), -2);
        Due.status(x, 7, 0, 0);
    }

    private static void digestOrder() {
        Due.says("h = 1439; then h = 31 h + v for each v: count(0) to count(8); of WELLS KIND, WANTED, HOURS (bits),"
            + " HAD, DUE; of LEFT ones h, x; of NOTES i, q, h, p, g, d; THE FRACTION.");
        WishMeter x = new WishMeter();
        Due.due("of nothing", x.digest(), Due.digestOf(0, 30, 0, 0, 0, 0, 0, 0, 0, 0, 1));
        x.type(127);
        Due.due("of a byte", x.digest(), Due.digestOf(0, 30, 0, 0, 0, 0, 0, 0, 1, 0, 1));
        x.left(7, 60);
        Due.due("of a LEFT one", x.digest(), Due.digestOf(0, 30, 0, 0, 0, 1, 0, 0, 1, 7, 60, 0, 1));
        x.well(TOWN, 20, 255);
        x.day(1);
        Due.due("of a WELL", x.digest(),
            Due.digestOf(1, 30, 1, 160, 320, 1, 0, 1, 1, 1, 20, 255, 160, 320, 7, 60, 0, 1));
        x.note(0, 20, 7, 60, 40, 80);
        x.noons(0, 0, 10);
        x.noons(0, 0, 1);
        Due.due("of a NOTE, THE FRACTION", x.digest(), Due.digestOf(1, 30, 1, 160, 320, 1, 1, 1, 1, 1, 20, 255, 160,
            320, 7, 60, 0, 20, 7, 60, 40, 80, 39, 2));
        x.forget(0);
        x.forget(1);
        x.undo();
        x.clear();
        x.undo();
        x.press(61);
        Due.due("no STATUS", x.digest(), Due.digestOf(1, 30, 0, 0, 0, 0, 0, 0, 0, 1, 20, 255, 0, 0, 39, 2));
    }

    /** Of numbers of any length, by 2 to the 64th what is left over. */
    private static void digestWraps() {
        WishMeter x = Due.main(60, RUNNING, 20, 255, TOWN, 20, 255, WIRE, 20, 255);
        for (int k = 0; k < 34; k++) x.day(30);
        long[] values = {3, 60, 999, 479520, 999 * 8 * 81, 0, 0, 8, 0, RUNNING, 20, 255, 999 * 320, 999 * 328,
            TOWN, 20, 255, 999 * 160, 999 * 320, WIRE, 20, 255, 0, 0, 0, 1};
        BigInteger h = BigInteger.valueOf(1439);
        for (long v : values) h = h.multiply(BigInteger.valueOf(31)).add(BigInteger.valueOf(v));
        Due.due("it is longer than 64 bits", h.bitLength() > 64 ? 1 : 0, 1);
        Due.due("digest()", x.digest(), h.longValue());
    }
}
