/** The edges of what each gets: an hour, a day, the turns, fair ones, the least pressure, which to shut. */
public final class GetsEdgesTest {
    private static final int PLAIN = 0, TOWN = 1, UPPER = 2, WIRE = 3, CHAIN = 4, RUNNING = 5;
    private static final int LEAST = Integer.MIN_VALUE, MOST = Integer.MAX_VALUE;

    public static void main(String[] args) {
        hour();
        hourRefused();
        daily();
        dailyRefused();
        turnsMost();
        turnsRising();
        turnsRefused();
        fairInBestHour();
        fairRising();
        fairNone();
        fairRefused();
        least();
        leastAsMuch();
        leastNone();
        shutMost();
        shutFirst();
        shutNone();
        shutRefused();
        Due.end();
    }

    private static void hour() {
        Due.says("GETS of a WELL in an HOUR; PRESSURE there ahead of it; what is LEFT behind all.");
        WishMeter x = Due.main(30, PLAIN, 20, 2, TOWN, 20, 3, UPPER, 20, 255, CHAIN, 20, 255, WIRE, 20, 128);
        int[][] inHour0 = {{0, 30}, {20, 30}, {10, 10}, {0, 0}, {0, 0}};
        int[][] inHour1 = {{20, 30}, {10, 10}, {0, 0}, {0, 0}, {0, 0}};
        int[][] inHour7 = {{0, 30}, {0, 30}, {20, 30}, {10, 10}, {0, 0}};
        for (int i = 0; i < 5; i++) {
            hourIs(x, i, 0, inHour0[i]);
            hourIs(x, i, 1, inHour1[i]);
            hourIs(x, i, 7, inHour7[i]);
        }
        Due.due("left in 2", x.hour(4, 2, 2), 10);
        x.press(60);
        Due.due("left in 7", x.hour(0, 7, 2), 0);
        Due.due("ahead of the last in 7", x.hour(4, 7, 1), 20);
        x.press(0);
        for (int i = 0; i < 5; i++) hourIs(x, i, 7, 0, 0);
        Due.due("left of 0", x.hour(4, 7, 2), 0);
    }

    private static void hourIs(WishMeter x, int i, int h, int... getsAndAhead) {
        Due.due("hour(" + i + ", " + h + ", 0)", x.hour(i, h, 0), getsAndAhead[0]);
        Due.due("hour(" + i + ", " + h + ", 1)", x.hour(i, h, 1), getsAndAhead[1]);
    }

    private static void hourRefused() {
        Due.says("`int hour(int i, int h, int what)`: In an HOUR: GETS (0), PRESSURE ahead of it (1), LEFT behind all"
            + " (2). BAD.");
        WishMeter x = Due.main(30, PLAIN, 20, 2);
        for (int bad : new int[] {-1, 1, 5, 256, LEAST, MOST}) Due.due("of " + bad, x.hour(bad, 0, 0), -2);
        for (int bad : new int[] {-1, 8, 256, LEAST, MOST}) Due.due("in " + bad, x.hour(0, bad, 0), -2);
        for (int bad : new int[] {-1, 3, 256, LEAST, MOST}) Due.due("what " + bad, x.hour(0, 0, bad), -2);
        Due.due("all", x.hour(-1, -1, -1), -2);
        Due.due("no wells", new WishMeter().hour(0, 0, 2), -2);
        Due.status(x, 17, 0, 0);
    }

    private static void daily() {
        Due.says("IN A DAY: what a WELL GETS, what is DUE; of all.");
        WishMeter x = Due.main(60, RUNNING, 20, 255, PLAIN, 20, 255, PLAIN, 1, 255);
        Due.due("of 0", x.daily(0, 0), 320);
        Due.due("due of 0", x.daily(0, 1), 328);
        Due.due("of 1", x.daily(1, 0), 160);
        Due.due("of 2", x.daily(2, 0), 0);
        Due.due("of all", x.daily(-1, 0), 480);
        Due.due("due of all", x.daily(-1, 1), 488);
        x.press(0);
        Due.due("at 0", x.daily(-1, 0), 0);
        Due.due("due at 0", x.daily(-1, 1), 0);
        WishMeter shut = Due.main(60, RUNNING, 20, 0, CHAIN, 20, 85);
        Due.due("shut", shut.daily(-1, 0), 0);
        Due.due("due of a shut one", shut.daily(0, 1), 0);
        Due.due("no wells", new WishMeter().daily(-1, 1), 0);
        x.board(60);
        Due.due("behind a board", x.daily(-1, 0), 0);
    }

    private static void dailyRefused() {
        Due.says("`int daily(int i, int what)`: IN A DAY: GETS (0), DUE (1); of one, of all (i = NONE). BAD.");
        WishMeter x = Due.main(30, PLAIN, 20, 2);
        for (int bad : new int[] {-2, 1, 5, 255, LEAST, MOST}) Due.due("of " + bad, x.daily(bad, 0), -2);
        for (int bad : new int[] {-1, 2, 256, LEAST, MOST}) {
            Due.due("what " + bad, x.daily(0, bad), -2);
            Due.due("what " + bad, x.daily(-1, bad), -2);
        }
        Due.status(x, 16, 0, 0);
    }

    private static void way(WishMeter x, int most, int... hours) {
        Due.due("turns(NONE)", x.turns(-1), most);
        for (int i = 0; i < hours.length; i++) Due.due("turns(" + i + ")", x.turns(i), hours[i]);
    }

    private static void turnsMost() {
        Due.says("TURNS: each WELL OPEN in just one HOUR of its own choice: so that most is had by all in a day:"
            + " how much;");
        way(Due.main(0, PLAIN, 20, 255), 0, 0);
        way(Due.main(1, PLAIN, 20, 255), 1, 0);
        way(Due.main(60, PLAIN, 1, 0), 1, 0);
        way(Due.main(60, RUNNING, 20, 0, RUNNING, 20, 0, RUNNING, 20, 0, RUNNING, 20, 0, RUNNING, 20, 0), 200,
            0, 1, 2, 3, 4);
        way(Due.main(40, PLAIN, 20, 1, PLAIN, 20, 1), 40, 0, 0);
        way(Due.main(39, PLAIN, 20, 1, PLAIN, 20, 1), 40, 0, 1);
        way(Due.main(9, UPPER, 20, 0), 4, 0);
        way(Due.main(10, UPPER, 20, 0), 10, 0);
        way(Due.main(10, PLAIN, 1, 0, UPPER, 20, 0), 11, 0, 1);
        way(Due.main(11, PLAIN, 1, 0, UPPER, 20, 0), 12, 0, 1);
        way(Due.main(11, PLAIN, 1, 0, UPPER, 10, 0), 11, 0, 0);
        way(Due.main(60, CHAIN, 20, 85), 20, 1);
    }

    private static void turnsRising() {
        Due.says("the HOUR of one in the first such way (rising); FAIR:");
        way(Due.main(60, PLAIN, 1, 128, PLAIN, 1, 128, PLAIN, 1, 128), 3, 0, 0, 0);
        way(Due.main(20, PLAIN, 20, 0, PLAIN, 20, 0), 40, 0, 1);
        way(Due.main(20, CHAIN, 20, 0, PLAIN, 20, 0), 40, 1, 0);
        way(Due.main(20, PLAIN, 20, 0, CHAIN, 20, 0), 40, 0, 1);
        way(Due.main(20, CHAIN, 20, 0, CHAIN, 20, 0), 40, 1, 3);
        way(Due.main(20, PLAIN, 20, 0, PLAIN, 20, 0, CHAIN, 20, 0), 60, 0, 1, 3);
        way(Due.main(20, CHAIN, 20, 0, PLAIN, 20, 0, CHAIN, 20, 0, PLAIN, 20, 0, CHAIN, 20, 0), 100, 1, 0, 3, 2, 5);
        way(Due.main(20, CHAIN, 20, 0, CHAIN, 20, 0, CHAIN, 20, 0, CHAIN, 20, 0, CHAIN, 20, 0), 80, 0, 1, 3, 5, 7);
    }

    private static void turnsRefused() {
        Due.says("`int turns(int i)`: TURNS: how much (i = NONE), the HOUR of one. BAD: -10.");
        WishMeter x = Due.main(60, PLAIN, 1, 1, PLAIN, 1, 1, PLAIN, 1, 1, PLAIN, 1, 1, PLAIN, 1, 1);
        for (int bad : new int[] {-2, -3, 5, 6, 255, 256, LEAST, MOST}) Due.due("of " + bad, x.turns(bad), -10);
        Due.due("of the last", x.turns(4), 0);
        Due.status(x, 8, 0, 0);
        WishMeter none = new WishMeter();
        Due.due("no wells", none.turns(-1), 0);
        Due.due("no wells", none.turns(0), -10);
    }

    private static void fairIs(WishMeter x, int due, int... hours) {
        Due.due("fair(NONE)", x.fair(-1), due);
        for (int i = 0; i < hours.length; i++) Due.due("fair(" + i + ")", x.fair(i), hours[i]);
    }

    private static void fairInBestHour() {
        Due.says("FAIR: so that each GETS as much as it could alone, in its best HOUR, at THE MAIN's PRESSURE, and"
            + " least is DUE by all: how much;");
        fairIs(Due.main(0, PLAIN, 20, 0), 0, 0);
        fairIs(Due.main(1, TOWN, 20, 0), 2, 0);
        fairIs(Due.main(60, CHAIN, 20, 85), 40, 1);
        fairIs(Due.main(40, PLAIN, 20, 0, TOWN, 20, 0), 60, 0, 0);
        fairIs(Due.main(39, PLAIN, 20, 0, TOWN, 20, 0), 60, 0, 1);
        fairIs(Due.main(30, PLAIN, 20, 0, UPPER, 10, 0), 30, 0, 0);
        fairIs(Due.main(29, PLAIN, 20, 0, UPPER, 9, 0), 29, 0, 1);
        fairIs(Due.main(9, UPPER, 20, 0, UPPER, 20, 0), 8, 0, 1);
        fairIs(Due.main(9, UPPER, 2, 0, UPPER, 2, 0), 2, 0, 0);
        fairIs(Due.main(41, WIRE, 20, 0, RUNNING, 20, 0), 41, 0, 1);
        fairIs(Due.main(60, WIRE, 20, 0, RUNNING, 20, 0), 41, 0, 0);
    }

    private static void fairRising() {
        Due.says("in the first such way (rising); none. LEAST:");
        fairIs(Due.main(20, CHAIN, 20, 0, PLAIN, 20, 0, CHAIN, 20, 0, PLAIN, 20, 0, CHAIN, 20, 0), 160, 1, 0, 3, 2, 5);
        fairIs(Due.main(20, PLAIN, 20, 0, CHAIN, 20, 0, PLAIN, 20, 0), 80, 0, 1, 2);
        fairIs(Due.main(60, PLAIN, 20, 0, PLAIN, 20, 0, PLAIN, 20, 0, PLAIN, 20, 0, PLAIN, 20, 0), 100, 0, 0, 0, 1, 1);
        fairIs(Due.main(0, CHAIN, 20, 0, CHAIN, 20, 0, CHAIN, 20, 0, CHAIN, 20, 0, CHAIN, 20, 0), 0, 0, 0, 0, 0, 0);
    }

    private static void fairNone() {
        Due.says("`int fair(int i)`: FAIR: how much (i = NONE), the HOUR of one. NONE. BAD: -10.");
        WishMeter four = Due.main(20, CHAIN, 20, 0, CHAIN, 20, 0, CHAIN, 20, 0, CHAIN, 20, 0);
        fairIs(four, 160, 1, 3, 5, 7);
        four.well(CHAIN, 20, 0);
        fairIs(four, -1, -1, -1, -1, -1, -1);
        four.press(39);
        fairIs(four, -1, -1, -1, -1, -1, -1);
        four.press(40);
        fairIs(four, 200, 1, 1, 3, 3, 5);
        Due.status(four, 0, 0, 0);
    }

    private static void fairRefused() {
        WishMeter x = Due.main(60, PLAIN, 1, 1, PLAIN, 1, 1, PLAIN, 1, 1, PLAIN, 1, 1, PLAIN, 1, 1);
        for (int bad : new int[] {-2, -3, 5, 6, 255, 256, LEAST, MOST}) Due.due("of " + bad, x.fair(bad), -10);
        Due.due("of the last", x.fair(4), 0);
        Due.status(x, 8, 0, 0);
        WishMeter none = new WishMeter();
        Due.due("no wells", none.fair(-1), 0);
        Due.due("no wells", none.fair(0), -10);
        WishMeter all = Due.main(10, CHAIN, 10, 0, CHAIN, 10, 0, CHAIN, 10, 0, CHAIN, 10, 0, CHAIN, 10, 0);
        Due.due("bad is ahead of none", all.fair(5), -10);
        Due.status(all, 1, 0, 0);
    }

    private static void least() {
        Due.says("LEAST: the least PRESSURE (0 .. 99) of THE MAIN by which, OPEN as they are,");
        Due.due("no wells", new WishMeter().least(), 0);
        Due.due("shut", Due.main(0, RUNNING, 20, 0).least(), 0);
        Due.due("a chain in even hours", Due.main(0, CHAIN, 20, 85).least(), 0);
        Due.due("1", Due.main(0, PLAIN, 1, 255).least(), 1);
        Due.due("20", Due.main(0, PLAIN, 20, 255).least(), 20);
        Due.due("99", Due.main(0, PLAIN, 20, 1, TOWN, 20, 1, WIRE, 20, 1, UPPER, 20, 1, PLAIN, 19, 1).least(), 99);
        Due.due("the dearest hour", Due.main(60, PLAIN, 20, 1, TOWN, 7, 129, WIRE, 5, 128).least(), 27);
        Due.due("only the last hour", Due.main(60, PLAIN, 13, 128).least(), 13);
        WishMeter x = Due.main(60, PLAIN, 20, 1, PLAIN, 20, 1);
        long before = x.digest();
        Due.due("40", x.least(), 40);
        Due.due("digest()", x.digest(), before);
    }

    private static void leastAsMuch() {
        Due.says("each WELL GETS in each HOUR as much as at PRESSURE 300; none.");
        Due.due("upper of 1", Due.main(0, UPPER, 1, 1).least(), 10);
        Due.due("upper of 9", Due.main(0, UPPER, 9, 1).least(), 10);
        Due.due("upper of 10", Due.main(0, UPPER, 10, 1).least(), 10);
        Due.due("upper of 11", Due.main(0, UPPER, 11, 1).least(), 11);
        Due.due("upper behind", Due.main(0, PLAIN, 20, 1, UPPER, 1, 1).least(), 30);
        Due.due("two uppers", Due.main(0, UPPER, 1, 1, UPPER, 1, 1).least(), 11);
        Due.due("plain behind upper", Due.main(0, UPPER, 1, 1, PLAIN, 20, 1).least(), 21);
        Due.due("running of 5", Due.main(0, RUNNING, 5, 1).least(), 10);
        Due.due("running of 1", Due.main(0, RUNNING, 1, 1).least(), 10);
        Due.due("running of 20", Due.main(0, RUNNING, 20, 1).least(), 40);
    }

    private static void leastNone() {
        Due.says("`int least()`: LEAST. NONE.");
        WishMeter x = Due.main(60, RUNNING, 20, 1, RUNNING, 20, 1, PLAIN, 19, 1);
        Due.due("99", x.least(), 99);
        x.want(2, 20);
        Due.due("100", x.least(), -1);
        x.turn(2, 2);
        Due.due("in turns", x.least(), 80);
        Due.due("upper behind 89", Due.main(0, RUNNING, 20, 1, RUNNING, 20, 1, PLAIN, 9, 1, UPPER, 1, 1).least(), 99);
        Due.due("upper behind 90", Due.main(0, RUNNING, 20, 1, RUNNING, 20, 1, PLAIN, 10, 1, UPPER, 1, 1).least(), -1);
        Due.due("the most", Due.main(60, RUNNING, 20, 128, RUNNING, 20, 128, RUNNING, 20, 128, RUNNING, 20, 128,
            RUNNING, 20, 128).least(), -1);
        Due.status(x, 0, 0, 0);
    }

    private static void shutMost() {
        Due.says("SHUT: the WELL (another one) without which a told one GETS most in a day;");
        WishMeter x = Due.main(20, PLAIN, 5, 1, PLAIN, 9, 1, PLAIN, 7, 1, PLAIN, 3, 1, PLAIN, 20, 1);
        Due.due("the last, by the one that gets most", x.shut(4), 1);
        Due.due("the fourth", x.shut(3), 0);
        Due.due("the third", x.shut(2), 0);
        Due.due("the second", x.shut(1), -1);
        Due.due("the first", x.shut(0), -1);
        Due.due("itself is no other", Due.main(9, UPPER, 20, 255).shut(0), -1);
        Due.due("10 ahead of an upper one", Due.main(19, PLAIN, 10, 1, PLAIN, 4, 1, UPPER, 20, 1).shut(2), 0);
        Due.due("of all hours", Due.main(10, PLAIN, 10, 1, PLAIN, 3, 14, PLAIN, 3, 112, PLAIN, 10, 255).shut(3), 0);
        Due.due("of all hours", Due.main(10, PLAIN, 8, 1, PLAIN, 3, 14, PLAIN, 3, 112, PLAIN, 10, 255).shut(3), 1);
        Due.due("a chain in even hours takes none",
            Due.main(10, CHAIN, 10, 85, WIRE, 1, 1, PLAIN, 10, 255).shut(2), 1);
    }

    private static void shutFirst() {
        Due.says("of like ones the first; none: by none more than as it is.");
        Due.due("of four", Due.main(10, PLAIN, 5, 1, PLAIN, 5, 2, PLAIN, 5, 4, PLAIN, 5, 8, PLAIN, 10, 255).shut(4), 0);
        Due.due("of three", Due.main(10, PLAIN, 5, 0, PLAIN, 5, 2, PLAIN, 5, 4, PLAIN, 5, 8, PLAIN, 10, 255).shut(4), 1);
        Due.due("not the less", Due.main(10, PLAIN, 4, 1, PLAIN, 5, 2, PLAIN, 5, 4, PLAIN, 6, 0, PLAIN, 10, 255).shut(4), 1);
    }

    private static void shutNone() {
        Due.says("`int shut(int i)`: SHUT. NONE. BAD.");
        Due.due("none ahead", Due.main(10, PLAIN, 5, 1, PLAIN, 20, 1).shut(0), -1);
        Due.due("enough", Due.main(10, PLAIN, 5, 1, PLAIN, 5, 1).shut(1), -1);
        Due.due("one short", Due.main(10, PLAIN, 5, 1, PLAIN, 6, 1).shut(1), 0);
        Due.due("shut itself", Due.main(10, PLAIN, 10, 255, PLAIN, 5, 0).shut(1), -1);
        Due.due("no pressure", Due.main(0, PLAIN, 10, 255, PLAIN, 5, 255).shut(1), -1);
        Due.due("one takes what the other leaves", Due.main(5, PLAIN, 5, 1, PLAIN, 5, 1, PLAIN, 5, 1).shut(2), -1);
        Due.due("alone", Due.main(5, PLAIN, 5, 1).shut(0), -1);
    }

    private static void shutRefused() {
        WishMeter x = Due.main(60, PLAIN, 1, 1, PLAIN, 1, 1);
        for (int bad : new int[] {-1, 2, 5, 256, LEAST, MOST}) Due.due("of " + bad, x.shut(bad), -2);
        Due.due("of the last", x.shut(1), -1);
        Due.status(x, 6, 0, 0);
        Due.due("no wells", new WishMeter().shut(0), -2);
    }
}
