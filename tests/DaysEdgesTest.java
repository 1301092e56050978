/** The edges of days: how many go by, what turn, want, press answer, what may be undone, what of tells. */
public final class DaysEdgesTest {
    private static final int PLAIN = 0, TOWN = 1, UPPER = 2, WIRE = 3, CHAIN = 4, RUNNING = 5;
    private static final int LEAST = Integer.MIN_VALUE, MOST = Integer.MAX_VALUE;

    public static void main(String[] args) {
        dayNumbers();
        dayTogether();
        dayOfNone();
        dayAt999();
        dayOfAll();
        turn();
        turnRefused();
        want();
        wantRefused();
        press();
        undoOfEach();
        undoEight();
        undoNone();
        undoAnew();
        undoLeaves();
        of();
        ofRefused();
        Due.end();
    }

    private static void dayNumbers() {
        Due.says("n DAYS go by (1 .. 30;");
        WishMeter x = Due.main(9, PLAIN, 5, 1);
        for (int n : new int[] {0, -1, 31, 32, 257, -30, LEAST, MOST}) Due.due("day(" + n + ")", x.day(n), -2);
        Due.due("count(2)", x.count(2), 0);
        Due.due("count(3)", x.count(3), 0);
        Due.due("count(7)", x.count(7), 0);
        Due.due("day(1)", x.day(1), 5);
        Due.due("count(2)", x.count(2), 1);
        Due.due("day(30)", x.day(30), 150);
        Due.due("count(2)", x.count(2), 31);
        Due.due("count(3)", x.count(3), 155);
        Due.status(x, 8, 0, 0);
    }

    private static void dayTogether() {
        Due.says("together one that may be undone, also if none goes by; at 999 none goes by)");
        WishMeter x = Due.main(9, TOWN, 5, 1);
        x.day(30);
        Due.due("one of 30", x.count(7), 1);
        x.day(1);
        Due.due("one of 1", x.count(7), 2);
        Due.due("undo()", x.undo(), 30);
        Due.due("had", x.of(0, 3), 150);
        Due.due("undo()", x.undo(), 0);
        Due.due("had", x.of(0, 3), 0);
        Due.due("due", x.of(0, 4), 0);
        Due.due("undo()", x.undo(), -3);
    }

    private static void dayOfNone() {
        WishMeter x = new WishMeter();
        Due.due("no wells", x.day(30), 0);
        Due.due("they go by", x.count(2), 30);
        Due.due("may be undone", x.count(7), 1);
        x = Due.main(0, PLAIN, 20, 255);
        Due.due("no pressure", x.day(2), 0);
        Due.due("they go by", x.count(2), 2);
        x = Due.main(60, PLAIN, 20, 0, CHAIN, 20, 85);
        Due.due("shut all day", x.day(2), 0);
        Due.due("they go by", x.count(2), 2);
    }

    private static void dayAt999() {
        WishMeter x = Due.main(9, TOWN, 5, 1);
        for (int k = 0; k < 33; k++) x.day(30);
        Due.due("9 of 30 go by", x.day(30), 45);
        Due.due("count(2)", x.count(2), 999);
        Due.due("may be undone", x.count(7), 8);
        Due.due("none goes by", x.day(1), 0);
        Due.due("none goes by", x.day(30), 0);
        Due.due("refused at 999, too", x.day(31), -2);
        Due.due("refused at 999, too", x.day(0), -2);
        Due.due("of none, undone", x.undo(), 999);
        Due.due("of none, undone", x.undo(), 999);
        Due.due("count(3)", x.count(3), 999 * 5);
        Due.due("of 9, undone", x.undo(), 990);
        Due.due("count(3)", x.count(3), 990 * 5);
        Due.due("count(4)", x.count(4), 990 * 10);
        Due.due("exactly 9", x.day(9), 45);
        Due.due("count(2)", x.count(2), 999);
        x.undo();
        Due.due("10 of which 9", x.day(10), 45);
        Due.due("count(2)", x.count(2), 999);
        x.undo();
        Due.due("8", x.day(8), 40);
        Due.due("count(2)", x.count(2), 998);
        Due.status(x, 2, 0, 0);
    }

    private static void dayOfAll() {
        Due.says("what all GET in them. BAD.");
        WishMeter x = Due.main(60, RUNNING, 20, 255, PLAIN, 20, 255, WIRE, 20, 255, UPPER, 20, 255, CHAIN, 20, 255);
        Due.due("all there is", x.day(30), 30 * 8 * 60);
        Due.due("had", x.count(3), 30 * 8 * 60);
        Due.due("due", x.count(4), 30 * 8 * 61);
        for (int k = 0; k < 32; k++) x.day(30);
        Due.due("the last 9", x.day(30), 9 * 8 * 60);
        Due.due("the most that is had", x.count(3), 999 * 8 * 60);
        Due.due("the most by one", x.of(0, 3), 999 * 8 * 40);
        Due.due("due by it", x.of(0, 4), 999 * 8 * 41);
        Due.due("none by the last", x.of(4, 3), 0);
    }

    private static void turn() {
        Due.says("`int turn(int i, int hours)`: HOURS (bits) in which a WELL is OPEN: those ahead of it. BAD.");
        WishMeter x = Due.main(60, PLAIN, 5, 255, PLAIN, 5, 1, PLAIN, 5, 2, PLAIN, 5, 4, PLAIN, 5, 8);
        Due.due("turn(0, 0)", x.turn(0, 0), 255);
        Due.due("turn(0, 0)", x.turn(0, 0), 0);
        Due.due("turn(0, 255)", x.turn(0, 255), 0);
        Due.due("turn(0, 255)", x.turn(0, 255), 255);
        Due.due("the last", x.turn(4, 128), 8);
        Due.due("the last's", x.of(4, 2), 128);
        Due.due("others stay", x.of(3, 2), 4);
        Due.due("one that changes nothing may be undone, too", x.count(7), 5);
        Due.due("undo()", x.undo(), 0);
        Due.due("the last's", x.of(4, 2), 8);
    }

    private static void turnRefused() {
        WishMeter x = Due.main(60, PLAIN, 5, 255, PLAIN, 5, 1);
        for (int i : new int[] {-1, 2, 5, 256, LEAST, MOST}) Due.due("turn(" + i + ", 0)", x.turn(i, 0), -2);
        for (int b : new int[] {-1, 256, 512, LEAST, MOST}) Due.due("turn(1, " + b + ")", x.turn(1, b), -2);
        Due.due("of(0, 2)", x.of(0, 2), 255);
        Due.due("of(1, 2)", x.of(1, 2), 1);
        Due.due("count(7)", x.count(7), 0);
        Due.status(x, 11, 0, 0);
    }

    private static void want() {
        Due.says("`int want(int i, int q)`: What is WANTED of a WELL (1 .. 20): what was. BAD.");
        WishMeter x = Due.main(60, PLAIN, 5, 255, PLAIN, 6, 1, PLAIN, 7, 2, PLAIN, 8, 4, PLAIN, 9, 8);
        Due.due("want(0, 1)", x.want(0, 1), 5);
        Due.due("want(0, 1)", x.want(0, 1), 1);
        Due.due("want(0, 20)", x.want(0, 20), 1);
        Due.due("the last", x.want(4, 20), 9);
        Due.due("the last's", x.of(4, 1), 20);
        Due.due("others stay", x.of(3, 1), 8);
        Due.due("one that changes nothing may be undone, too", x.count(7), 4);
        Due.due("undo()", x.undo(), 0);
        Due.due("the last's", x.of(4, 1), 9);
    }

    private static void wantRefused() {
        WishMeter x = Due.main(60, PLAIN, 5, 255, PLAIN, 6, 1);
        for (int i : new int[] {-1, 2, 5, 256, LEAST, MOST}) Due.due("want(" + i + ", 1)", x.want(i, 1), -2);
        for (int q : new int[] {0, -1, 21, 257, LEAST, MOST}) Due.due("want(1, " + q + ")", x.want(1, q), -2);
        Due.due("of(0, 1)", x.of(0, 1), 5);
        Due.due("of(1, 1)", x.of(1, 1), 6);
        Due.due("count(7)", x.count(7), 0);
        Due.status(x, 12, 0, 0);
    }

    private static void press() {
        Due.says("`int press(int pressure)`: THE MAIN's PRESSURE: what it was. BAD.");
        WishMeter x = new WishMeter();
        Due.due("press(0)", x.press(0), 30);
        Due.due("press(0)", x.press(0), 0);
        Due.due("press(60)", x.press(60), 0);
        Due.due("one that changes nothing may be undone, too", x.count(7), 3);
        for (int p : new int[] {-1, 61, 256, LEAST, MOST}) Due.due("press(" + p + ")", x.press(p), -2);
        Due.due("count(1)", x.count(1), 60);
        Due.due("count(7)", x.count(7), 3);
        Due.status(x, 5, 0, 0);
    }

    private static void undoOfEach() {
        Due.says("UNDO: HAD, DUE, HOURS, WANTED, THE MAIN's PRESSURE, the DAY as ahead of the last DAYS gone by, turn,"
            + " want, PRESSURE told");
        WishMeter x = Due.main(20, PLAIN, 5, 255, TOWN, 7, 3, UPPER, 1, 1, WIRE, 1, 2, RUNNING, 2, 4);
        x.day(4);
        long before = digestWithUndos(x, 1);
        x.day(5);
        Due.due("of a day", x.undo(), 4);
        Due.due("all is as ahead", digestWithUndos(x, 1), before);
        x.turn(4, 7);
        Due.due("of a turn", x.undo(), 4);
        Due.due("all is as ahead", digestWithUndos(x, 1), before);
        x.want(4, 9);
        Due.due("of a want", x.undo(), 4);
        Due.due("all is as ahead", digestWithUndos(x, 1), before);
        x.press(60);
        Due.due("of a press", x.undo(), 4);
        Due.due("all is as ahead", digestWithUndos(x, 1), before);
        Due.due("of the first day", x.undo(), 0);
        Due.due("none may be", x.undo(), -3);
    }

    private static long digestWithUndos(WishMeter x, int undos) {
        Due.due("count(7)", x.count(7), undos);
        return x.digest();
    }

    private static void undoEight() {
        Due.says("(8 at most; behind a WELL that comes none may be)");
        for (int told = 1; told <= 20; told++) {
            WishMeter x = Due.main(59);
            for (int k = 1; k <= told; k++) x.press(k);
            int may = Math.min(told, 8);
            Due.due("may be undone of " + told, x.count(7), may);
            for (int k = 1; k <= may; k++) {
                Due.due("undo() of " + told, x.undo(), 0);
                Due.due("pressure", x.count(1), told == k ? 59 : told - k);
                Due.due("fewer", x.count(7), may - k);
            }
            Due.due("one more of " + told, x.undo(), -3);
            Due.due("the pressure stays", x.count(1), told <= 8 ? 59 : told - 8);
        }
    }

    private static void undoNone() {
        Due.says("`int undo()`: UNDO: the DAY then. NO: none may be.");
        WishMeter x = new WishMeter();
        Due.due("of a new object", x.undo(), -3);
        x.press(9);
        x.board(8);
        Due.due("behind a board", x.undo(), -3);
        x.press(9);
        x.well(PLAIN, 1, 1);
        Due.due("behind a well", x.undo(), -3);
        x.press(10);
        Due.type(x, "main 7;well 0 1;day;turn 0 1;");
        x.read();
        Due.due("behind a text", x.undo(), -3);
        x.image(0);
        x.press(11);
        x.from(0);
        Due.due("behind an image that keeps none", x.undo(), -3);
        x.press(61);
        x.turn(1, 0);
        x.want(0, 0);
        x.day(0);
        Due.due("behind refused ones", x.undo(), -3);
        x.press(12);
        x.undo();
        Due.due("behind the only one undone", x.undo(), -3);
        x.left(1, 1);
        x.note(0, 1, 1, 1, 1, 1);
        x.forget(0);
        x.noons(0, 0, 1);
        x.type(1);
        x.clear();
        Due.due("behind others", x.undo(), -3);
        Due.due("count(1)", x.count(1), 7);
        Due.status(x, 4, 8, 0);
    }

    /** What is told behind an undo takes the place of what was undone. */
    private static void undoAnew() {
        WishMeter x = Due.main(20, PLAIN, 5, 255);
        for (int k = 1; k <= 8; k++) x.press(k);
        for (int k = 0; k < 3; k++) x.undo();
        Due.due("count(1)", x.count(1), 5);
        x.want(0, 9);
        x.turn(0, 3);
        Due.due("count(7)", x.count(7), 7);
        x.day(1);
        Due.due("count(7)", x.count(7), 8);
        Due.due("undo() of the day", x.undo(), 0);
        Due.due("of(0, 3)", x.of(0, 3), 0);
        x.undo();
        Due.due("of(0, 2)", x.of(0, 2), 255);
        x.undo();
        Due.due("of(0, 1)", x.of(0, 1), 5);
        for (int p = 4; p >= 1; p--) {
            x.undo();
            Due.due("count(1)", x.count(1), p);
        }
        x.undo();
        Due.due("count(1)", x.count(1), 20);
        Due.due("undo()", x.undo(), -3);
    }

    private static void undoLeaves() {
        WishMeter x = Due.main(20, PLAIN, 5, 255);
        for (int k = 0; k < 8; k++) {
            x.press(k);
            if (k < 4) x.left(k, k);
            if (k < 6) x.note(0, 1, 1, 1, 1, k);
            x.type(k);
        }
        x.image(1);
        x.noons(0, 0, 5);
        for (int k = 0; k < 8; k++) x.undo();
        Due.due("LEFT ones stay", x.count(5), 4);
        Due.due("NOTES stay", x.count(6), 6);
        Due.due("THE TEXT stays", x.count(8), 8);
        Due.due("THE FRACTION stays", x.part(0), 4);
        Due.due("the IMAGE stays", x.from(1), 1);
        Due.due("its undos, too", x.count(7), 8);
        Due.due("KIND stays", x.of(0, 0), PLAIN);
    }

    private static void of() {
        Due.says("`int of(int i, int what)`: Of a WELL: KIND (0), WANTED (1), HOURS (2; bits), HAD (3), DUE (4). BAD.");
        WishMeter x = Due.main(60, RUNNING, 20, 255, CHAIN, 1, 2, WIRE, 2, 1, PLAIN, 3, 0, TOWN, 4, 128);
        x.day(2);
        int[][] want = {{5, 20, 255, 640, 656}, {4, 1, 2, 2, 4}, {3, 2, 1, 4, 0}, {0, 3, 0, 0, 0}, {1, 4, 128, 8, 16}};
        for (int i = 0; i < 5; i++) {
            for (int what = 0; what < 5; what++) {
                Due.due("of(" + i + ", " + what + ")", x.of(i, what), want[i][what]);
            }
        }
    }

    private static void ofRefused() {
        WishMeter x = Due.main(60, RUNNING, 20, 255, CHAIN, 1, 2);
        for (int what : new int[] {-1, 5, 6, 256, LEAST, MOST}) Due.due("of(0, " + what + ")", x.of(0, what), -2);
        for (int i : new int[] {-1, 2, 4, 5, 256, LEAST, MOST}) Due.due("of(" + i + ", 0)", x.of(i, 0), -2);
        Due.due("both", x.of(2, 5), -2);
        Due.status(x, 14, 0, 0);
    }
}
