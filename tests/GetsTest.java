/** Promises 13 to 18: what each gets. */
public final class GetsTest {
    private static final int PLAIN = 0, TOWN = 1, UPPER = 2, WIRE = 3, CHAIN = 4, RUNNING = 5;

    public static void main(String[] args) {
        kindsGet();
        hour();
        kindsOwe();
        daily();
        turns();
        turnsFirstWay();
        fair();
        turnsBehindFair();
        fairNone();
        least();
        shut();
        fewerWells();
        Due.end();
    }

    private static void kindsGet() {
        Due.promise(13);
        gets(PLAIN, 5, 0, 3, 3);
        gets(PLAIN, 5, 0, 5, 5);
        gets(PLAIN, 5, 1, 60, 5);
        gets(PLAIN, 5, 0, 0, 0);
        gets(TOWN, 20, 0, 9, 9);
        gets(TOWN, 20, 1, 25, 20);
        gets(UPPER, 5, 0, 9, 2);
        gets(UPPER, 5, 0, 10, 5);
        gets(UPPER, 20, 0, 9, 4);
        gets(UPPER, 20, 0, 10, 10);
        gets(UPPER, 5, 1, 3, 1);
        gets(UPPER, 1, 0, 9, 0);
        gets(WIRE, 5, 0, 9, 5);
        gets(WIRE, 5, 1, 4, 4);
        gets(CHAIN, 5, 0, 9, 0);
        gets(CHAIN, 5, 6, 60, 0);
        gets(CHAIN, 5, 1, 4, 4);
        gets(CHAIN, 5, 7, 60, 5);
        gets(RUNNING, 5, 0, 9, 4);
        gets(RUNNING, 5, 0, 10, 10);
        gets(RUNNING, 5, 1, 12, 10);
        gets(RUNNING, 7, 0, 10, 10);
        gets(RUNNING, 20, 0, 15, 15);
        gets(RUNNING, 20, 0, 60, 40);
        gets(RUNNING, 3, 0, 2, 2);
        gets(RUNNING, 20, 0, 9, 8);
        gets(RUNNING, 20, 0, 1, 0);
        gets(RUNNING, 1, 0, 9, 0);
    }

    private static void gets(int kind, int q, int h, int p, int want) {
        WishMeter x = Due.main(p, kind, q, 255);
        String what = "kind " + kind + " of " + q + " in " + h + " at " + p;
        Due.due(what + " gets", x.hour(0, h, 0), want);
        Due.due(what + " ahead", x.hour(0, h, 1), p);
        Due.due(what + " left", x.hour(0, h, 2), p - want);
    }

    private static void hour() {
        WishMeter x = Due.main(20, PLAIN, 7, 1, UPPER, 9, 3, TOWN, 6, 129);
        int[] want = {7, 20, 0, 0, 20, 11, 0, 20, 14,
            9, 13, 0, 9, 20, 11, 0, 20, 14,
            4, 4, 0, 0, 11, 11, 6, 20, 14};
        int[] hours = {0, 1, 7};
        for (int i = 0; i < 3; i++) {
            for (int k = 0; k < 9; k++) {
                Due.due("hour(" + i + ", " + hours[k / 3] + ", " + k % 3 + ")",
                    x.hour(i, hours[k / 3], k % 3), want[9 * i + k]);
            }
        }
        Due.due("hour(-1, 0, 0)", x.hour(-1, 0, 0), -2);
        Due.due("hour(3, 0, 0)", x.hour(3, 0, 0), -2);
        Due.due("hour(0, -1, 0)", x.hour(0, -1, 0), -2);
        Due.due("hour(0, 8, 0)", x.hour(0, 8, 0), -2);
        Due.due("hour(0, 0, -1)", x.hour(0, 0, -1), -2);
        Due.due("hour(0, 0, 3)", x.hour(0, 0, 3), -2);
        Due.status(x, 6, 0, 0);
    }

    private static void kindsOwe() {
        Due.promise(14);
        owes(PLAIN, 5, 20, 5, 5);
        owes(TOWN, 5, 20, 5, 10);
        owes(UPPER, 5, 20, 5, 5);
        owes(UPPER, 5, 9, 2, 2);
        owes(WIRE, 5, 20, 5, 0);
        owes(CHAIN, 5, 20, 5, 10);
        owes(RUNNING, 5, 20, 10, 11);
        owes(RUNNING, 5, 1, 0, 0);
        owes(RUNNING, 20, 2, 2, 3);
    }

    private static void owes(int kind, int q, int p, int gets, int due) {
        WishMeter x = Due.main(p, kind, q, 2);
        Due.due("kind " + kind + " of " + q + " at " + p + " gets", x.daily(0, 0), gets);
        Due.due("kind " + kind + " of " + q + " at " + p + " owes", x.daily(0, 1), due);
    }

    private static void daily() {
        WishMeter x = Due.main(20, RUNNING, 4, 7, CHAIN, 13, 15, WIRE, 2, 128);
        Due.due("daily(0, 0)", x.daily(0, 0), 24);
        Due.due("daily(0, 1)", x.daily(0, 1), 27);
        Due.due("daily(1, 0)", x.daily(1, 0), 25);
        Due.due("daily(1, 1)", x.daily(1, 1), 50);
        Due.due("daily(2, 0)", x.daily(2, 0), 2);
        Due.due("daily(2, 1)", x.daily(2, 1), 0);
        Due.due("daily(NONE, 0)", x.daily(WishMeter.NONE, 0), 51);
        Due.due("daily(NONE, 1)", x.daily(WishMeter.NONE, 1), 77);
        Due.due("nothing is had by it", x.count(3), 0);
        Due.due("daily(-2, 0)", x.daily(-2, 0), -2);
        Due.due("daily(3, 0)", x.daily(3, 0), -2);
        Due.due("daily(-1, -1)", x.daily(-1, -1), -2);
        Due.due("daily(-1, 2)", x.daily(-1, 2), -2);
        Due.due("daily(0, 2)", x.daily(0, 2), -2);
        Due.status(x, 5, 0, 0);
        Due.due("no wells", new WishMeter().daily(-1, 0), 0);
    }

    private static void turns() {
        Due.promise(15);
        WishMeter x = Due.main(10, PLAIN, 10, 0, CHAIN, 10, 0, TOWN, 7, 0, WIRE, 3, 0);
        long before = x.digest();
        Due.due("turns(NONE)", x.turns(WishMeter.NONE), 30);
        Due.due("turns(0)", x.turns(0), 0);
        Due.due("turns(1)", x.turns(1), 1);
        Due.due("turns(2)", x.turns(2), 2);
        Due.due("turns(3)", x.turns(3), 2);
        Due.due("turns(-2)", x.turns(-2), -10);
        Due.due("turns(4)", x.turns(4), -10);
        Due.due("digest()", x.digest(), before);
        Due.status(x, 2, 0, 0);
        WishMeter none = new WishMeter();
        Due.due("turns(NONE)", none.turns(-1), 0);
        Due.due("turns(0)", none.turns(0), -10);
        Due.status(none, 1, 0, 0);
    }

    private static void turnsFirstWay() {
        way(Due.main(60, PLAIN, 9, 0, TOWN, 9, 0, CHAIN, 9, 0), 27, 0, 0, 1);
        way(Due.main(0, CHAIN, 9, 255, PLAIN, 9, 255), 0, 0, 0);
        way(Due.main(10, CHAIN, 10, 0, PLAIN, 10, 0, PLAIN, 10, 0), 30, 1, 0, 2);
        way(Due.main(10, PLAIN, 10, 0, PLAIN, 10, 0, PLAIN, 10, 0, PLAIN, 10, 0, PLAIN, 10, 0), 50, 0, 1, 2, 3, 4);
        way(Due.main(10, CHAIN, 10, 0, CHAIN, 10, 0, CHAIN, 10, 0, CHAIN, 10, 0, CHAIN, 10, 0), 40, 0, 1, 3, 5, 7);
        way(Due.main(12, PLAIN, 3, 0, UPPER, 20, 0), 15, 0, 1);
        way(Due.main(9, UPPER, 9, 0, UPPER, 9, 0), 8, 0, 1);
        way(Due.main(9, RUNNING, 5, 0, PLAIN, 5, 0), 9, 0, 0);
    }

    private static void way(WishMeter x, int most, int... hours) {
        Due.due("turns(NONE)", x.turns(-1), most);
        for (int i = 0; i < hours.length; i++) Due.due("turns(" + i + ")", x.turns(i), hours[i]);
    }

    private static void fair() {
        Due.promise(16);
        WishMeter x = Due.main(20, CHAIN, 10, 0, CHAIN, 10, 0, CHAIN, 10, 0, CHAIN, 10, 0, CHAIN, 10, 0);
        long before = x.digest();
        Due.due("fair(NONE)", x.fair(WishMeter.NONE), 100);
        int[] want = {1, 1, 3, 3, 5};
        for (int i = 0; i < 5; i++) Due.due("fair(" + i + ")", x.fair(i), want[i]);
        Due.due("fair(5)", x.fair(5), -10);
        Due.due("fair(-2)", x.fair(-2), -10);
        Due.due("digest()", x.digest(), before);
        Due.status(x, 2, 0, 0);
        WishMeter upper = Due.main(12, WIRE, 3, 0, UPPER, 12, 0, RUNNING, 1, 0);
        Due.due("fair(NONE)", upper.fair(-1), 12 + 3);
        Due.due("fair(0)", upper.fair(0), 0);
        Due.due("fair(1)", upper.fair(1), 1);
        Due.due("fair(2)", upper.fair(2), 2);
        WishMeter none = new WishMeter();
        Due.due("fair(NONE)", none.fair(-1), 0);
        Due.due("fair(0)", none.fair(0), -10);
    }

    /** Each looks anew, whatever was looked for last. */
    private static void turnsBehindFair() {
        WishMeter x = Due.main(40, TOWN, 20, 0, CHAIN, 20, 0, WIRE, 20, 0);
        Due.due("fair(NONE)", x.fair(-1), 80);
        x.press(10);
        Due.due("turns(NONE)", x.turns(-1), 30);
        Due.due("turns(0)", x.turns(0), 0);
        Due.due("turns(1)", x.turns(1), 1);
        Due.due("turns(2)", x.turns(2), 2);
        x.press(0);
        Due.due("turns(NONE)", x.turns(-1), 0);
        Due.due("turns(2)", x.turns(2), 0);
        Due.due("fair(NONE)", x.fair(-1), 0);
        x.press(10);
        Due.due("fair(NONE)", x.fair(-1), 40);
        Due.due("fair(2)", x.fair(2), 2);
    }

    private static void fairNone() {
        WishMeter x = Due.main(10, CHAIN, 10, 0, CHAIN, 10, 0, CHAIN, 10, 0, CHAIN, 10, 0, CHAIN, 10, 0);
        Due.due("fair(NONE)", x.fair(-1), -1);
        for (int i = 0; i < 5; i++) Due.due("fair(" + i + ")", x.fair(i), -1);
        Due.status(x, 0, 0, 0);
        x.press(0);
        Due.due("fair(NONE)", x.fair(-1), 0);
        Due.due("fair(4)", x.fair(4), 0);
    }

    private static void least() {
        Due.promise(17);
        Due.due("no wells", new WishMeter().least(), 0);
        Due.due("shut all day", Due.main(20, PLAIN, 20, 0).least(), 0);
        Due.due("one", Due.main(0, PLAIN, 20, 4).least(), 20);
        Due.due("two at once", Due.main(0, PLAIN, 20, 4, TOWN, 20, 4).least(), 40);
        Due.due("two in turns", Due.main(0, PLAIN, 20, 4, TOWN, 19, 8).least(), 20);
        Due.due("upper", Due.main(60, UPPER, 3, 1).least(), 10);
        Due.due("upper behind", Due.main(60, PLAIN, 5, 1, UPPER, 3, 1).least(), 15);
        Due.due("running", Due.main(60, RUNNING, 7, 1).least(), 14);
        Due.due("chain, even", Due.main(60, CHAIN, 7, 1).least(), 0);
        Due.due("chain, odd", Due.main(60, CHAIN, 7, 2).least(), 7);
        Due.due("99", Due.main(1, RUNNING, 20, 1, RUNNING, 20, 1, PLAIN, 19, 1).least(), 99);
        WishMeter x = Due.main(1, RUNNING, 20, 1, RUNNING, 20, 1, PLAIN, 20, 1);
        Due.due("100", x.least(), -1);
        Due.status(x, 0, 0, 0);
    }

    private static void shut() {
        Due.promise(18);
        WishMeter x = Due.main(10, PLAIN, 8, 1, PLAIN, 5, 1, PLAIN, 9, 1);
        long before = x.digest();
        Due.due("shut(0)", x.shut(0), -1);
        Due.due("shut(1)", x.shut(1), 0);
        Due.due("shut(2)", x.shut(2), 0);
        Due.due("digest()", x.digest(), before);
        Due.due("shut(-1)", x.shut(-1), -2);
        Due.due("shut(3)", x.shut(3), -2);
        Due.status(x, 2, 0, 0);
        Due.due("of like ones", Due.main(10, PLAIN, 5, 1, PLAIN, 5, 1, PLAIN, 5, 1).shut(2), 0);
        Due.due("the later", Due.main(10, PLAIN, 2, 1, PLAIN, 8, 1, PLAIN, 9, 1).shut(2), 1);
        Due.due("one behind", Due.main(10, PLAIN, 9, 1, PLAIN, 9, 1).shut(0), -1);
        Due.due("enough for both", Due.main(10, PLAIN, 5, 1, PLAIN, 5, 1).shut(1), -1);
        Due.due("other hours", Due.main(5, PLAIN, 5, 1, PLAIN, 5, 2).shut(1), -1);
        Due.due("by the day, all hours", Due.main(9, PLAIN, 9, 1, PLAIN, 5, 14, PLAIN, 9, 15).shut(2), 1);
    }

    /** Wells that a board took away are asked no more. */
    private static void fewerWells() {
        WishMeter x = Due.main(60, TOWN, 9, 255, TOWN, 9, 255, TOWN, 9, 255, TOWN, 9, 255, RUNNING, 9, 255);
        x.day(1);
        x.fair(-1);
        x.daily(-1, 1);
        x.board(20);
        x.well(PLAIN, 5, 255);
        x.well(PLAIN, 5, 1);
        Due.due("daily(NONE, 0)", x.daily(-1, 0), 45);
        Due.due("daily(NONE, 1)", x.daily(-1, 1), 45);
        Due.due("day(1)", x.day(1), 45);
        Due.due("count(3)", x.count(3), 45);
        Due.due("count(4)", x.count(4), 45);
        Due.due("turns(NONE)", x.turns(-1), 10);
        Due.due("fair(NONE)", x.fair(-1), 10);
        Due.due("least()", x.least(), 10);
        Due.due("hour(1, 0, 2)", x.hour(1, 0, 2), 10);
        Due.due("drew(2)", x.drew(2), 3);
        Due.due("shut(1)", x.shut(1), -1);
        Due.due("swaps(NONE)", x.swaps(-1), 0);
        Due.due("years(1, 60)", x.years(1, 60), Due.main(3, PLAIN, 5, 255, PLAIN, 5, 1).years(1, 60));
    }
}
