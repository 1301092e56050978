/** Promises 1 to 6: a main. */
public final class MainTest {
    private static final String FIVE = "main9;well0 1;well0 1;well0 1;well0 1;well0 1;";

    public static void main(String[] args) {
        aNewObject();
        board();
        boardKeeps();
        well();
        type();
        clear();
        readMains();
        readFaults();
        readsNoOldBytes();
        readTakesThePlaceOfAllBut();
        readAgain();
        Due.end();
    }

    private static void aNewObject() {
        Due.promise(1);
        WishMeter x = new WishMeter();
        Due.due("digest()", x.digest(), Due.digestOf(0, 30, 0, 0, 0, 0, 0, 0, 0, 0, 1));
        for (int what = 0; what <= 8; what++) Due.due("count(" + what + ")", x.count(what), what == 1 ? 30 : 0);
        Due.due("part(0)", x.part(0), 0);
        Due.due("part(1)", x.part(1), 1);
        Due.status(x, 0, 0, 0);
        Due.due("from(0)", x.from(0), -3);
        Due.due("from(1)", x.from(1), -3);
        Due.due("undo()", x.undo(), -3);
        Due.due("well", x.well(0, 1, 1), 0);
        Due.due("had", x.of(0, 3), 0);
        Due.due("due", x.of(0, 4), 0);
    }

    private static void board() {
        Due.promise(2);
        WishMeter x = new WishMeter();
        Due.due("board(0)", x.board(0), 0);
        Due.due("count(1)", x.count(1), 0);
        Due.due("board(60)", x.board(60), 0);
        Due.due("count(1)", x.count(1), 60);
        Due.due("board(61)", x.board(61), -2);
        Due.due("board(-1)", x.board(-1), -2);
        Due.due("board(least)", x.board(Integer.MIN_VALUE), -2);
        Due.due("count(1)", x.count(1), 60);
        Due.status(x, 3, 0, 0);
        x.well(0, 1, 1);
        x.well(1, 2, 3);
        Due.due("board(7)", x.board(7), 2);
        Due.due("board(7)", x.board(7), 0);
    }

    private static void boardKeeps() {
        WishMeter x = Due.main(20, 0, 5, 255, 1, 7, 3);
        Due.type(x, "main");
        x.noons(0, 0, 1);
        x.day(2);
        x.left(1, 2);
        x.note(0, 1, 2, 3, 4, 5);
        x.image(1);
        x.board(-5);
        Due.due("board(11)", x.board(11), 2);
        Due.due("digest()", x.digest(), Due.digestOf(0, 11, 0, 0, 0, 0, 0, 0, 4, 5, 1));
        Due.status(x, 1, 0, 0);
        Due.due("undo()", x.undo(), -3);
        Due.due("well", x.well(0, 1, 1), 0);
        Due.due("had", x.of(0, 3), 0);
        Due.due("due", x.of(0, 4), 0);
        Due.due("from(1)", x.from(1), 1);
        Due.due("count(0)", x.count(0), 2);
        Due.due("count(2)", x.count(2), 2);
    }

    private static void well() {
        Due.promise(3);
        WishMeter x = new WishMeter();
        Due.due("kind -1", x.well(-1, 1, 0), -2);
        Due.due("kind 6", x.well(6, 1, 0), -2);
        Due.due("wanted 0", x.well(0, 0, 0), -2);
        Due.due("wanted 21", x.well(0, 21, 0), -2);
        Due.due("hours -1", x.well(0, 1, -1), -2);
        Due.due("hours 256", x.well(0, 1, 256), -2);
        Due.due("count(0)", x.count(0), 0);
        x.press(9);
        Due.due("well", x.well(5, 20, 255), 0);
        Due.due("none may be undone", x.count(7), 0);
        for (int k = 1; k < 5; k++) Due.due("well", x.well(k, k, k), k);
        x.press(8);
        Due.due("a 6th", x.well(0, 1, 0), -4);
        Due.due("a bad 6th", x.well(0, 1, 256), -2);
        Due.due("refused: it may be undone", x.count(7), 1);
        Due.status(x, 7, 0, 1);
        Due.due("kind", x.of(0, 0), 5);
        Due.due("wanted", x.of(0, 1), 20);
        Due.due("hours", x.of(0, 2), 255);
        Due.due("kind", x.of(4, 0), 4);
        Due.due("wanted", x.of(4, 1), 4);
        Due.due("hours", x.of(4, 2), 4);
    }

    private static void type() {
        Due.promise(4);
        WishMeter x = new WishMeter();
        Due.due("type(-1)", x.type(-1), -2);
        Due.due("type(128)", x.type(128), -2);
        Due.due("type(0)", x.type(0), 1);
        Due.due("type(127)", x.type(127), 2);
        for (int k = 3; k <= 150; k++) Due.due("type(32)", x.type(32), k);
        Due.due("type(32)", x.type(32), -4);
        Due.due("type(128)", x.type(128), -2);
        Due.due("count(8)", x.count(8), 150);
        Due.status(x, 3, 0, 1);
    }

    private static void clear() {
        Due.promise(5);
        WishMeter x = new WishMeter();
        Due.due("clear()", x.clear(), 0);
        Due.type(x, "main 7;");
        Due.due("clear()", x.clear(), 7);
        Due.due("clear()", x.clear(), 0);
        Due.due("count(8)", x.count(8), 0);
        Due.due("read()", x.read(), -10);
        Due.due("type", x.type('m'), 1);
        for (int k = 2; k <= 150; k++) x.type(32);
        Due.due("clear()", x.clear(), 150);
        Due.due("type", x.type('m'), 1);
    }

    private static void readMains() {
        Due.promise(6);
        reads("main 0;", 1, Due.digestOf(0, 0, 0, 0, 0, 0, 0, 0, 7, 0, 1));
        reads("main60;", 1, Due.digestOf(0, 60, 0, 0, 0, 0, 0, 0, 7, 0, 1));
        reads("main 07;", 1, Due.digestOf(0, 7, 0, 0, 0, 0, 0, 0, 8, 0, 1));
        reads("  main  12 ; day ;  ", 2, Due.digestOf(0, 12, 1, 0, 0, 0, 0, 0, 20, 0, 1));
        reads("main 9;well 5 20;", 2, Due.digestOf(1, 9, 0, 0, 0, 0, 0, 0, 17, 5, 20, 0, 0, 0, 0, 1));
        reads("main 9;well 0 3 7 0 7;", 2, Due.digestOf(1, 9, 0, 0, 0, 0, 0, 0, 22, 0, 3, 129, 0, 0, 0, 1));
        reads("main9;well00 03 07;day;", 3, Due.digestOf(1, 9, 1, 3, 3, 0, 0, 0, 23, 0, 3, 128, 3, 3, 0, 1));
        reads("main 9;well 1 3 7;day;turn 0 0 1;day;", 5,
            Due.digestOf(1, 9, 2, 9, 18, 0, 0, 0, 37, 1, 3, 3, 9, 18, 0, 1));
        reads("main 9;well 1 3 7;turn 0;day;day;", 5, Due.digestOf(1, 9, 2, 0, 0, 0, 0, 0, 33, 1, 3, 0, 0, 0, 0, 1));
        reads("main 9;day;well 0 1 1;", 3, Due.digestOf(1, 9, 1, 0, 0, 0, 0, 0, 22, 0, 1, 2, 0, 0, 0, 1));
        reads(FIVE, 6, Due.digestOf(5, 9, 0, 0, 0, 0, 0, 0, 46,
            0, 1, 0, 0, 0, 0, 1, 0, 0, 0, 0, 1, 0, 0, 0, 0, 1, 0, 0, 0, 0, 1, 0, 0, 0, 0, 1));
    }

    private static void reads(String text, int items, long digest) {
        WishMeter x = new WishMeter();
        Due.type(x, text);
        Due.due("read() of " + text, x.read(), items);
        Due.due("digest() of " + text, x.digest(), digest);
        Due.status(x, 0, 0, 0);
    }

    private static void readFaults() {
        faults("", 0);
        faults("   ", 3);
        faults(";main 0;", 0);
        faults("7 main 0;", 0);
        faults("day;main 0;", 0);
        faults("  well 0 1;", 2);
        faults("mai", 0);
        faults("mainx", 0);
        faults("main", 4);
        faults("main ", 5);
        faults("main 5", 6);
        faults("main ;", 5);
        faults("main 61;", 5);
        faults("main 007;", 5);
        faults("main 1 1;", 7);
        faults("main5;main5;", 6);
        faults("main 5;;", 7);
        faults("main 5;5;", 7);
        faults("main 5;days;", 7);
        faults("main 5;daymain 5;", 7);
        faults("main 5;day 1;", 11);
        faults("main 5;day", 10);
        faults("main 5;day  ", 12);
        faults("main 5;day;D", 11);
        faults("main 5#", 6);
        faults("main 5;\tday;", 7);
        faults("main 5;day\u0000;", 10);
        faults("main 5;well;", 11);
        faults("main 5;well 6 1;", 12);
        faults("main 5;well 0 0;", 14);
        faults("main 5;well 0 21;", 14);
        faults("main 5;well 0 1 8;", 16);
        faults("main 5;well 0 1 7 7 9 8;", 20);
        faults("main 5;well 0 1 day;", 16);
        faults("main 5;well 0 1 100;", 16);
        faults("main 5;well 0 1 1", 17);
        faults("main 5;well 0", 13);
        faults("main 5;turn 0;", 12);
        faults("main 5;well 0 1;turn 1 0;", 21);
        faults("main 5;well 0 1;turn 0 8;", 23);
        faults("main 5;well 0 1;turn;", 20);
        faults("main 5;well 0 1;turn 0 1", 24);
        faults("main 5;well 0 1;turn 000;", 21);
        faults("main 5;well 0 1;turn 0 turn 0;", 23);
        faults("main 5;wel 0 1;", 7);
        faults("main 5;wells 0 1;", 7);
        faults("main 5;welll 0 1;", 7);
        faults("xmain 5;", 0);
        faults(FIVE + "well", 46);
        faults(FIVE + " well0 1;", 47);
        faults(FIVE + "main", 46);
        faults("main 5;dayz;", 7);
        faults("main 5;aday;", 7);
        faults("main 5;day{", 10);
        faults("main 5;day`;", 10);
        faults("main 5:", 6);
        faults("main 5/;", 6);
        faults("Main 5;", 0);
    }

    /** What was typed ahead of a clear is no more of the text. */
    private static void readsNoOldBytes() {
        oldBytes("main 55;", "main 5", 6);
        oldBytes("main 5  ;", "main 5", 6);
        oldBytes("main5;dayx;", "main5;day", 9);
        oldBytes("main5;day;", "main5;day", 9);
        oldBytes("main5;day;", "", 0);
    }

    private static void oldBytes(String old, String text, int fault) {
        WishMeter x = new WishMeter();
        Due.type(x, old);
        Due.type(x, text);
        Due.due("read() of " + text + " behind " + old, x.read(), -10 - fault);
    }

    private static void faults(String text, int fault) {
        WishMeter x = Due.main(17, 3, 4, 5);
        x.day(1);
        x.left(1, 1);
        Due.type(x, text);
        long before = x.digest();
        Due.due("read() of " + text, x.read(), -10 - fault);
        Due.due("digest() of " + text, x.digest(), before);
        Due.due("undo()", x.undo(), 0);
        Due.status(x, 0, 0, 0);
    }

    private static void readTakesThePlaceOfAllBut() {
        WishMeter x = Due.main(17, 3, 4, 5, 0, 9, 15);
        x.day(1);
        x.left(1, 1);
        x.note(1, 1, 1, 1, 1, 1);
        x.noons(1, 1, 10);
        x.image(0);
        x.undo();
        x.press(5);
        x.of(9, 9);
        Due.type(x, "main 3;day;");
        Due.due("read()", x.read(), 2);
        Due.due("digest()", x.digest(), Due.digestOf(0, 3, 1, 0, 0, 0, 0, 0, 11, 8, 1));
        Due.due("undo()", x.undo(), -3);
        Due.status(x, 1, 1, 0);
        Due.due("read() again", x.read(), 2);
        Due.due("from(0)", x.from(0), 1);
        Due.due("count(5)", x.count(5), 1);
        Due.due("count(6)", x.count(6), 1);
        Due.due("undo()", x.undo(), 0);
    }

    private static void readAgain() {
        WishMeter x = new WishMeter();
        Due.type(x, FIVE + "day;");
        Due.due("read()", x.read(), 7);
        long once = x.digest();
        Due.due("read() again", x.read(), 7);
        Due.due("digest()", x.digest(), once);
        x.type('x');
        Due.due("read() of a fault", x.read(), -10 - 50);
        Due.type(x, "main 4;well 1 2 3;day;");
        Due.due("read() of another", x.read(), 3);
        Due.due("digest()", x.digest(), Due.digestOf(1, 4, 1, 2, 4, 0, 0, 0, 22, 1, 2, 8, 2, 4, 0, 1));
    }
}
