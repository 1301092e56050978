/** The edges of a main: its hours, pressure, wells, kinds, days; a new object; board, well, type, clear. */
public final class MainEdgesTest {
    private static final int PLAIN = 0, TOWN = 1, UPPER = 2, WIRE = 3, CHAIN = 4, RUNNING = 5;
    private static final int LEAST = Integer.MIN_VALUE, MOST = Integer.MAX_VALUE;

    public static void main(String[] args) {
        hours();
        pressure();
        wells();
        wanted();
        open();
        hadAndDue();
        days();
        kinds();
        upper();
        chain();
        running();
        along();
        aDay();
        aNewObject();
        aNewObjectRefuses();
        board();
        well();
        wellUndo();
        type();
        clear();
        Due.end();
    }

    private static void hours() {
        Due.says("HOURS 0 .. 7 of a day.");
        WishMeter x = Due.main(20, PLAIN, 5, 255);
        int[] bads = {8, -1, 9, 255, 256, LEAST, MOST};
        for (int h : bads) {
            Due.due("hour in " + h, x.hour(0, h, 0), -2);
            Due.due("left in " + h, x.left(h, 0), -2);
            Due.due("note in " + h, x.note(0, 1, h, 0, 0, 0), -2);
            Due.due("inspector in " + h, x.inspector(0, h), -2);
            Due.due("noons in " + h, x.noons(0, h, 0), -2);
        }
        Due.status(x, 35, 0, 0);
        for (int h : new int[] {0, 7}) {
            Due.due("hour in " + h, x.hour(0, h, 0), 5);
            Due.due("left in " + h, x.left(h, 0), h == 0 ? 1 : 2);
            Due.due("note in " + h, x.note(0, 1, h, 0, 0, 0), h == 0 ? 1 : 2);
            Due.due("inspector in " + h, x.inspector(0, h), 4);
            Due.due("noons in " + h, x.noons(0, h, 0), 1);
        }
        Due.due("a day has eight", x.daily(0, 0), 40);
        Due.due("a day has eight", x.day(1), 40);
        Due.status(x, 35, 0, 0);
    }

    private static void pressure() {
        Due.says("THE MAIN has a PRESSURE (0 .. 60; 30 at first).");
        WishMeter x = new WishMeter();
        Due.due("at first", x.count(1), 30);
        int[] bads = {-1, 61, 256, 300, -256, LEAST, MOST};
        for (int p : bads) {
            Due.due("board(" + p + ")", x.board(p), -2);
            Due.due("press(" + p + ")", x.press(p), -2);
        }
        Due.due("stays", x.count(1), 30);
        Due.due("press(0)", x.press(0), 30);
        Due.due("press(60)", x.press(60), 0);
        Due.due("board(0)", x.board(0), 0);
        Due.due("is 0", x.count(1), 0);
        Due.due("board(60)", x.board(60), 0);
        Due.due("is 60", x.count(1), 60);
        Due.status(x, 14, 0, 0);
        Due.due("a text's 0", Due.read("main 0;").count(1), 0);
        Due.due("a text's 60", Due.read("main 60;").count(1), 60);
        Due.due("a text's 61", Due.read("main 61;").count(1), 30);
    }

    private static void wells() {
        Due.says("WELLS 0 .. 4, as they come, one behind the other along it");
        WishMeter x = Due.main(60);
        for (int i = 0; i < 5; i++) {
            Due.due("not there yet", x.of(i, 0), -2);
            Due.due("well", x.well(PLAIN, 1 + i, 255), i);
            Due.due("its own", x.of(i, 1), 1 + i);
        }
        int[] ahead = {60, 59, 57, 54, 50};
        for (int i = 0; i < 5; i++) Due.due("ahead of " + i, x.hour(i, 0, 1), ahead[i]);
        Due.due("behind all", x.hour(0, 0, 2), 45);
        Due.due("a 6th", x.well(PLAIN, 1, 255), -4);
        Due.due("number 5", x.of(5, 0), -2);
        Due.due("number -1", x.of(-1, 0), -2);
        Due.due("how many", x.count(0), 5);
    }

    private static void wanted() {
        Due.says("what is WANTED of it in an HOUR (1 .. 20)");
        WishMeter x = Due.main(60, PLAIN, 1, 1, PLAIN, 20, 1);
        Due.due("1 stands", x.of(0, 1), 1);
        Due.due("20 stands", x.of(1, 1), 20);
        for (int q : new int[] {0, 21, -1, -20, 257, LEAST, MOST}) {
            Due.due("well of " + q, x.well(PLAIN, q, 1), -2);
            Due.due("want " + q, x.want(0, q), -2);
            Due.due("note of " + q, x.note(0, q, 0, 0, 0, 0), -2);
        }
        Due.due("want 20", x.want(0, 20), 1);
        Due.due("want 1", x.want(0, 1), 20);
        Due.due("note of 1", x.note(0, 1, 0, 0, 0, 0), 1);
        Due.due("note of 20", x.note(0, 20, 0, 0, 0, 0), 2);
        Due.due("count(0)", x.count(0), 2);
        Due.status(x, 21, 0, 0);
    }

    private static void open() {
        Due.says("OPEN in some HOURS (bits 0 .. 255)");
        WishMeter x = Due.main(60, PLAIN, 3, 0, PLAIN, 4, 255);
        for (int h = 0; h < 8; h++) {
            Due.due("shut in " + h, x.hour(0, h, 0), 0);
            Due.due("open in " + h, x.hour(1, h, 0), 4);
        }
        for (int b = 0; b < 8; b++) {
            Due.due("turn", x.turn(0, 1 << b), b == 0 ? 0 : 1 << b - 1);
            for (int h = 0; h < 8; h++) Due.due("bit " + b + " in hour " + h, x.hour(0, h, 0), h == b ? 3 : 0);
        }
        for (int hours : new int[] {-1, 256, 257, 511, -256, LEAST, MOST}) {
            Due.due("well open in " + hours, x.well(PLAIN, 1, hours), -2);
            Due.due("turn to " + hours, x.turn(0, hours), -2);
        }
        Due.due("of(0, 2)", x.of(0, 2), 128);
        Due.status(x, 14, 0, 0);
    }

    private static void hadAndDue() {
        Due.says("HAD, DUE of each (0 at first).");
        WishMeter x = Due.main(60, TOWN, 3, 1);
        Due.due("had", x.of(0, 3), 0);
        Due.due("due", x.of(0, 4), 0);
        x.day(5);
        x.well(TOWN, 3, 1);
        Due.due("had of the old one", x.of(0, 3), 15);
        Due.due("had of the new one", x.of(1, 3), 0);
        Due.due("due of the new one", x.of(1, 4), 0);
        x.board(60);
        x.well(TOWN, 3, 1);
        Due.due("had behind a board", x.of(0, 3), 0);
        Due.due("due behind a board", x.of(0, 4), 0);
        x.day(1);
        Due.type(x, "main 60;well 1 3 1;");
        x.read();
        Due.due("had behind a text", x.of(0, 3), 0);
        Due.due("due behind a text", x.of(0, 4), 0);
    }

    private static void days() {
        Due.says("DAYS have numbers, 0 at first (999 at most).");
        WishMeter x = Due.main(60, TOWN, 1, 1);
        Due.due("at first", x.count(2), 0);
        for (int k = 0; k < 33; k++) x.day(30);
        x.day(8);
        Due.due("998", x.count(2), 998);
        Due.due("one more goes by", x.day(1), 1);
        Due.due("999", x.count(2), 999);
        for (int n : new int[] {1, 2, 30}) {
            Due.due("none goes by of " + n, x.day(n), 0);
            Due.due("999 stays", x.count(2), 999);
            Due.due("had stays", x.of(0, 3), 999);
            Due.due("due stays", x.of(0, 4), 1998);
        }
        for (int k = 0; k < 4; k++) x.undo();
        Due.due("998 again", x.count(2), 998);
        Due.due("one goes by of 30", x.day(30), 1);
        Due.due("999", x.count(2), 999);
        x.board(1);
        Due.due("behind a board", x.count(2), 0);
    }

    private static void gets(int kind, int q, int h, int p, int want) {
        Due.due("kind " + kind + " of " + q + " in " + h + " at " + p, Due.main(p, kind, q, 255).hour(0, h, 0), want);
    }

    private static void owes(int kind, int q, int h, int p, int want) {
        Due.due("kind " + kind + " of " + q + " in " + h + " at " + p + " owes",
            Due.main(p, kind, q, 1 << h).daily(0, 1), want);
    }

    private static void kinds() {
        Due.says("0 PLAIN: q, p at most; g.");
        gets(PLAIN, 1, 0, 0, 0);
        gets(PLAIN, 1, 0, 1, 1);
        gets(PLAIN, 20, 0, 19, 19);
        gets(PLAIN, 20, 0, 20, 20);
        gets(PLAIN, 20, 7, 21, 20);
        owes(PLAIN, 20, 0, 0, 0);
        owes(PLAIN, 20, 0, 60, 20);
        Due.says("1 TOWN (under PLAIN): as PLAIN; twice PLAIN.");
        gets(TOWN, 1, 0, 0, 0);
        gets(TOWN, 20, 0, 19, 19);
        gets(TOWN, 20, 7, 21, 20);
        owes(TOWN, 20, 0, 0, 0);
        owes(TOWN, 20, 0, 1, 2);
        owes(TOWN, 20, 0, 60, 40);
        Due.says("3 WIRE (under PLAIN): as PLAIN; 0.");
        gets(WIRE, 1, 0, 0, 0);
        gets(WIRE, 20, 0, 9, 9);
        gets(WIRE, 20, 6, 60, 20);
        owes(WIRE, 20, 0, 60, 0);
    }

    private static void upper() {
        Due.says("2 UPPER (under PLAIN): as PLAIN, half (cut) of that, if p is below 10; as PLAIN.");
        int[] of20 = {0, 0, 1, 1, 2, 2, 3, 3, 4, 4, 10, 11};
        int[] of7 = {0, 0, 1, 1, 2, 2, 3, 3, 3, 3, 7, 7};
        int[] of1 = {0, 0, 0, 0, 0, 0, 0, 0, 0, 0, 1, 1};
        for (int p = 0; p < 12; p++) {
            gets(UPPER, 20, 0, p, of20[p]);
            gets(UPPER, 7, 1, p, of7[p]);
            gets(UPPER, 1, 2, p, of1[p]);
        }
        gets(UPPER, 20, 0, 60, 20);
        owes(UPPER, 20, 0, 9, 4);
        owes(UPPER, 20, 0, 10, 10);
        owes(UPPER, 1, 0, 9, 0);
    }

    private static void chain() {
        Due.says("4 CHAIN (under TOWN): as TOWN in HOURS of an odd number, else 0; as TOWN.");
        for (int h = 0; h < 8; h++) {
            gets(CHAIN, 20, h, 60, h % 2 == 1 ? 20 : 0);
            gets(CHAIN, 20, h, 9, h % 2 == 1 ? 9 : 0);
            owes(CHAIN, 20, h, 60, h % 2 == 1 ? 40 : 0);
            gets(CHAIN, 20, h, 0, 0);
        }
    }

    private static void running() {
        Due.says("5 RUNNING (under UPPER): twice UPPER, p at most; 1 more than UPPER, if g is 1 or more.");
        int[] of20 = {0, 0, 2, 2, 4, 4, 6, 6, 8, 8, 10, 11};
        int[] of5 = {0, 0, 2, 2, 4, 4, 4, 4, 4, 4, 10, 10};
        int[] of1 = {0, 0, 0, 0, 0, 0, 0, 0, 0, 0, 2, 2};
        for (int p = 0; p < 12; p++) {
            gets(RUNNING, 20, 0, p, of20[p]);
            gets(RUNNING, 5, 1, p, of5[p]);
            gets(RUNNING, 1, 2, p, of1[p]);
        }
        gets(RUNNING, 20, 0, 39, 39);
        gets(RUNNING, 20, 0, 40, 40);
        gets(RUNNING, 20, 0, 41, 40);
        owes(RUNNING, 20, 0, 1, 0);
        owes(RUNNING, 20, 0, 2, 3);
        owes(RUNNING, 1, 0, 9, 0);
        owes(RUNNING, 1, 0, 10, 3);
        owes(RUNNING, 20, 0, 60, 41);
    }

    private static void along() {
        Due.says("each that is OPEN in it GETS as told by the PRESSURE there is then, which is as much less behind it.");
        WishMeter x = Due.main(20, PLAIN, 10, 1, UPPER, 20, 1, PLAIN, 5, 2, RUNNING, 3, 1, WIRE, 1, 1);
        int[] ahead = {20, 10, 0, 0, 0};
        int[] gets = {10, 10, 0, 0, 0};
        for (int i = 0; i < 5; i++) {
            Due.due("ahead of " + i, x.hour(i, 0, 1), ahead[i]);
            Due.due("gets " + i, x.hour(i, 0, 0), gets[i]);
            Due.due("none left", x.hour(i, 0, 2), 0);
        }
        x.press(19);
        Due.due("below 10 by the one ahead", x.hour(1, 0, 0), 4);
        Due.due("as much less", x.hour(2, 0, 1), 5);
        Due.due("a shut one takes none", x.hour(3, 0, 1), 5);
        Due.due("running behind", x.hour(3, 0, 0), 2);
        Due.due("the last", x.hour(4, 0, 1), 3);
        Due.due("left", x.hour(0, 0, 2), 2);
        x.press(0);
        for (int i = 0; i < 5; i++) Due.due("ahead of " + i, x.hour(i, 0, 1), 0);
    }

    private static void aDay() {
        Due.says("HAD, DUE of each are as much more as it GETS in them, as is DUE for it (HOUR by HOUR);"
            + " the DAY is one more.");
        WishMeter x = Due.main(40, RUNNING, 4, 255, RUNNING, 20, 129);
        Due.due("day(1)", x.day(1), 64 + 64);
        Due.due("had", x.of(0, 3), 64);
        Due.due("1 more in each hour", x.of(0, 4), 72);
        Due.due("had of the other", x.of(1, 3), 64);
        Due.due("1 more in two hours", x.of(1, 4), 66);
        Due.due("one more", x.count(2), 1);
        Due.due("day(29)", x.day(29), 29 * 128);
        Due.due("had", x.of(0, 3), 30 * 64);
        Due.due("due", x.of(0, 4), 30 * 72);
        Due.due("29 more", x.count(2), 30);
    }

    private static void aNewObject() {
        Due.says("`WishMeter()`: As told; no WELLS.");
        WishMeter x = new WishMeter();
        for (int what = 0; what <= 8; what++) Due.due("count(" + what + ")", x.count(what), what == 1 ? 30 : 0);
        Due.due("daily(NONE, 0)", x.daily(-1, 0), 0);
        Due.due("daily(NONE, 1)", x.daily(-1, 1), 0);
        Due.due("turns(NONE)", x.turns(-1), 0);
        Due.due("fair(NONE)", x.fair(-1), 0);
        Due.due("least()", x.least(), 0);
        Due.due("drew(0)", x.drew(0), 1);
        Due.due("drew(1)", x.drew(1), 0);
        Due.due("drew(2)", x.drew(2), 0);
        Due.due("forget(0)", x.forget(0), 0);
        Due.due("forget(1)", x.forget(1), 0);
        Due.due("swaps(NONE)", x.swaps(-1), 0);
        Due.due("swaps(0)", x.swaps(0), -5);
        Due.due("years(999999, 60)", x.years(999999, 60), 0);
        Due.due("part(0)", x.part(0), 0);
        Due.due("part(1)", x.part(1), 1);
        Due.due("clear()", x.clear(), 0);
        Due.due("read()", x.read(), -10);
        Due.status(x, 0, 0, 0);
        Due.due("digest()", x.digest(), Due.digestOf(0, 30, 0, 0, 0, 0, 0, 0, 0, 0, 1));
    }

    private static void aNewObjectRefuses() {
        WishMeter x = new WishMeter();
        Due.due("turn(0, 0)", x.turn(0, 0), -2);
        Due.due("want(0, 1)", x.want(0, 1), -2);
        Due.due("of(0, 0)", x.of(0, 0), -2);
        Due.due("hour(0, 0, 0)", x.hour(0, 0, 0), -2);
        Due.due("daily(0, 0)", x.daily(0, 0), -2);
        Due.due("turns(0)", x.turns(0), -10);
        Due.due("fair(0)", x.fair(0), -10);
        Due.due("shut(0)", x.shut(0), -2);
        Due.due("note", x.note(0, 1, 0, 0, 0, 0), -2);
        Due.due("is(0)", x.is(0), -2);
        Due.due("look(0)", x.look(0), -2);
        Due.due("inspector(0, 0)", x.inspector(0, 0), -2);
        Due.due("noons(0, 0, 0)", x.noons(0, 0, 0), -2);
        Due.status(x, 13, 0, 0);
        Due.due("undo()", x.undo(), -3);
        Due.due("from(0)", x.from(0), -3);
        Due.due("from(1)", x.from(1), -3);
        Due.status(x, 13, 3, 0);
        Due.due("digest()", x.digest(), Due.digestOf(0, 30, 0, 0, 0, 0, 0, 0, 0, 0, 1));
    }

    private static void board() {
        Due.says("`int board(int pressure)`: PRESSURE, all else as at first (but for IMAGES, THE TEXT, THE FRACTION,"
            + " STATUS): how many WELLS there were. BAD.");
        WishMeter x = new WishMeter();
        Due.due("of none", x.board(30), 0);
        for (int k = 0; k < 5; k++) x.well(PLAIN, 3, 255);
        for (int k = 0; k < 4; k++) x.left(k, k);
        for (int k = 0; k < 6; k++) x.note(k % 5, 1, 1, 1, 1, 1);
        for (int k = 0; k < 9; k++) x.day(1);
        x.noons(0, 0, 1);
        x.type(65);
        Due.due("of five", x.board(8), 5);
        Due.due("digest()", x.digest(), Due.digestOf(0, 8, 0, 0, 0, 0, 0, 0, 1, 3, 1));
        Due.due("a well is the first", x.well(PLAIN, 1, 1), 0);
        Due.due("left is the first", x.left(1, 1), 1);
        Due.due("note is the first", x.note(0, 1, 1, 1, 1, 1), 1);
        Due.due("day is the first", x.day(1), 1);
        Due.due("of one", x.board(8), 1);
        Due.due("nothing to undo", x.undo(), -3);
    }

    private static void well() {
        Due.says("`int well(int kind, int wanted, int hours)`: A WELL: its number. BAD; FULL: 5.");
        WishMeter x = new WishMeter();
        for (int kind : new int[] {-1, 6, 256, LEAST, MOST}) Due.due("kind " + kind, x.well(kind, 1, 0), -2);
        for (int kind = 0; kind < 5; kind++) Due.due("kind " + kind, x.well(kind, 1, 0), kind);
        Due.due("a 6th", x.well(5, 1, 0), -4);
        Due.due("a 6th of no kind", x.well(6, 1, 0), -2);
        x.board(30);
        Due.due("kind 5", x.well(5, 1, 0), 0);
        Due.due("of(0, 0)", x.of(0, 0), 5);
        Due.status(x, 6, 0, 1);
    }

    private static void wellUndo() {
        Due.says("behind a WELL that comes none may be");
        WishMeter x = new WishMeter();
        for (int k = 0; k < 5; k++) {
            x.press(k);
            x.day(1);
            Due.due("may be undone", x.count(7), 2);
            Due.due("well", x.well(PLAIN, 1, 1), k);
            Due.due("none may be", x.count(7), 0);
            Due.due("undo()", x.undo(), -3);
            Due.due("the pressure stays", x.count(1), k);
            Due.due("the day stays", x.count(2), 1 + k);
        }
        x.press(9);
        x.well(PLAIN, 1, 1);
        x.well(PLAIN, 0, 1);
        Due.due("a refused one leaves it", x.count(7), 1);
        Due.due("undo()", x.undo(), 5);
        Due.due("count(1)", x.count(1), 4);
    }

    private static void type() {
        Due.says("`int type(int c)`: A byte (0 .. 127) comes behind THE TEXT: how many it has. BAD; FULL.");
        WishMeter x = new WishMeter();
        for (int c : new int[] {-1, 128, 255, 256, -128, LEAST, MOST}) Due.due("type(" + c + ")", x.type(c), -2);
        Due.due("none came", x.count(8), 0);
        for (int c = 0; c < 128; c++) Due.due("type(" + c + ")", x.type(c), c + 1);
        for (int k = 129; k <= 150; k++) Due.due("type(0)", x.type(0), k);
        Due.due("a 151st", x.type(0), -4);
        Due.due("a 151st", x.type(127), -4);
        Due.due("a bad one", x.type(128), -2);
        Due.due("a bad one", x.type(-1), -2);
        Due.due("count(8)", x.count(8), 150);
        Due.status(x, 9, 0, 2);
    }

    private static void clear() {
        Due.says("`int clear()`: THE TEXT is empty: how many it had.");
        WishMeter x = new WishMeter();
        Due.due("of an empty one", x.clear(), 0);
        x.type(65);
        Due.due("of one", x.clear(), 1);
        for (int k = 0; k < 151; k++) x.type(32);
        Due.due("of a full one", x.clear(), 150);
        Due.due("count(8)", x.count(8), 0);
        Due.due("clear()", x.clear(), 0);
        for (int k = 1; k <= 150; k++) Due.due("type(32)", x.type(32), k);
        Due.due("full again", x.type(32), -4);
        Due.status(x, 0, 0, 2);
    }
}
