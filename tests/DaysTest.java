/** Promises 7 to 12: days. */
public final class DaysTest {
    public static void main(String[] args) {
        day();
        daysEnd();
        turn();
        want();
        press();
        undo();
        eightMayBeUndone();
        undoLeavesTheRest();
        of();
        Due.end();
    }

    /** 5 in each hour by one, 7 in two hours by the other: 54 a day, 40 and 28 of it due. */
    private static WishMeter twoWells() {
        return Due.main(20, 0, 5, 255, 1, 7, 3);
    }

    private static void day() {
        Due.promise(7);
        WishMeter x = twoWells();
        Due.due("day(0)", x.day(0), -2);
        Due.due("day(31)", x.day(31), -2);
        Due.due("day(-1)", x.day(-1), -2);
        Due.due("count(2)", x.count(2), 0);
        Due.due("count(7)", x.count(7), 0);
        Due.due("day(1)", x.day(1), 54);
        Due.due("day(3)", x.day(3), 162);
        Due.due("count(2)", x.count(2), 4);
        Due.due("of(0, 3)", x.of(0, 3), 160);
        Due.due("of(0, 4)", x.of(0, 4), 160);
        Due.due("of(1, 3)", x.of(1, 3), 56);
        Due.due("of(1, 4)", x.of(1, 4), 112);
        Due.due("count(7)", x.count(7), 2);
        Due.due("undo()", x.undo(), 1);
        Due.due("of(1, 3)", x.of(1, 3), 14);
        Due.due("undo()", x.undo(), 0);
        Due.due("of(1, 4)", x.of(1, 4), 0);
        Due.due("day(30)", x.day(30), 1620);
        Due.status(x, 3, 0, 0);
        WishMeter running = Due.main(20, 5, 3, 3, 3, 9, 2);
        Due.due("day(2)", running.day(2), 42);
        Due.due("hour by hour", running.of(0, 4), 28);
        Due.due("a wire owes none", running.of(1, 4), 0);
        Due.due("no wells", new WishMeter().day(5), 0);
    }

    private static void daysEnd() {
        WishMeter x = twoWells();
        for (int k = 0; k < 33; k++) x.day(30);
        Due.due("day(30) at 990", x.day(30), 9 * 54);
        Due.due("count(2)", x.count(2), 999);
        Due.due("count(3)", x.count(3), 999 * 54);
        Due.due("day(1) at 999", x.day(1), 0);
        Due.due("count(3)", x.count(3), 999 * 54);
        Due.due("undo()", x.undo(), 999);
        Due.due("undo()", x.undo(), 990);
        Due.due("count(4)", x.count(4), 990 * 68);
    }

    private static void turn() {
        Due.promise(8);
        WishMeter x = twoWells();
        Due.due("turn(0, 0)", x.turn(0, 0), 255);
        Due.due("turn(0, 255)", x.turn(0, 255), 0);
        Due.due("turn(1, 6)", x.turn(1, 6), 3);
        Due.due("turn(1, 6)", x.turn(1, 6), 6);
        Due.due("hour(1, 2, 0)", x.hour(1, 2, 0), 7);
        Due.due("hour(1, 0, 0)", x.hour(1, 0, 0), 0);
        Due.due("turn(-1, 0)", x.turn(-1, 0), -2);
        Due.due("turn(2, 0)", x.turn(2, 0), -2);
        Due.due("turn(0, -1)", x.turn(0, -1), -2);
        Due.due("turn(0, 256)", x.turn(0, 256), -2);
        Due.due("of(0, 2)", x.of(0, 2), 255);
        Due.due("count(7)", x.count(7), 4);
        Due.status(x, 4, 0, 0);
    }

    private static void want() {
        Due.promise(9);
        WishMeter x = twoWells();
        Due.due("want(0, 1)", x.want(0, 1), 5);
        Due.due("want(0, 20)", x.want(0, 20), 1);
        Due.due("want(0, 20)", x.want(0, 20), 20);
        Due.due("want(0, 0)", x.want(0, 0), -2);
        Due.due("want(0, 21)", x.want(0, 21), -2);
        Due.due("want(-1, 1)", x.want(-1, 1), -2);
        Due.due("want(2, 1)", x.want(2, 1), -2);
        Due.due("of(0, 1)", x.of(0, 1), 20);
        Due.due("of(1, 1)", x.of(1, 1), 7);
        Due.due("hour(1, 0, 0)", x.hour(1, 0, 0), 0);
        Due.due("count(7)", x.count(7), 3);
        Due.status(x, 4, 0, 0);
    }

    private static void press() {
        Due.promise(10);
        WishMeter x = twoWells();
        Due.due("press(0)", x.press(0), 20);
        Due.due("press(60)", x.press(60), 0);
        Due.due("press(60)", x.press(60), 60);
        Due.due("press(-1)", x.press(-1), -2);
        Due.due("press(61)", x.press(61), -2);
        Due.due("count(1)", x.count(1), 60);
        Due.due("count(0)", x.count(0), 2);
        Due.due("count(7)", x.count(7), 3);
        Due.status(x, 2, 0, 0);
    }

    private static void undo() {
        Due.promise(11);
        WishMeter x = twoWells();
        long first = x.digest();
        Due.due("undo()", x.undo(), -3);
        x.day(2);
        x.turn(1, 255);
        x.day(3);
        x.want(0, 9);
        x.press(3);
        x.day(1);
        Due.due("count(7)", x.count(7), 6);
        Due.due("undo()", x.undo(), 5);
        Due.due("count(1)", x.count(1), 3);
        Due.due("undo()", x.undo(), 5);
        Due.due("count(1)", x.count(1), 20);
        Due.due("of(0, 1)", x.of(0, 1), 9);
        Due.due("undo()", x.undo(), 5);
        Due.due("of(0, 1)", x.of(0, 1), 5);
        Due.due("of(1, 3)", x.of(1, 3), 28 + 3 * 56);
        Due.due("undo()", x.undo(), 2);
        Due.due("of(1, 2)", x.of(1, 2), 255);
        Due.due("of(1, 3)", x.of(1, 3), 28);
        Due.due("undo()", x.undo(), 2);
        Due.due("of(1, 2)", x.of(1, 2), 3);
        Due.due("undo()", x.undo(), 0);
        Due.due("digest()", x.digest(), first);
        Due.due("undo()", x.undo(), -3);
        Due.status(x, 0, 2, 0);
    }

    private static void eightMayBeUndone() {
        WishMeter x = new WishMeter();
        for (int k = 1; k <= 10; k++) x.press(k);
        Due.due("count(7)", x.count(7), 8);
        for (int k = 9; k >= 2; k--) {
            Due.due("undo()", x.undo(), 0);
            Due.due("count(1)", x.count(1), k);
        }
        Due.due("undo()", x.undo(), -3);
        Due.due("count(1)", x.count(1), 2);
        x.press(7);
        x.well(0, 1, 1);
        Due.due("behind a well", x.undo(), -3);
        x.press(8);
        Due.due("undo()", x.undo(), 0);
        Due.due("count(1)", x.count(1), 7);
    }

    private static void undoLeavesTheRest() {
        WishMeter x = twoWells();
        x.press(9);
        x.left(1, 2);
        x.note(0, 1, 2, 3, 4, 5);
        x.noons(0, 0, 0);
        x.type(65);
        x.undo();
        Due.due("digest()", x.digest(), Due.digestOf(2, 20, 0, 0, 0, 1, 1, 0, 1,
            0, 5, 255, 0, 0, 1, 7, 3, 0, 0, 1, 2, 0, 1, 2, 3, 4, 5, 5, 1));
    }

    private static void of() {
        Due.promise(12);
        WishMeter x = Due.main(20, 3, 5, 254, 1, 7, 3);
        x.day(1);
        int[] want = {3, 5, 254, 35, 0, 1, 7, 3, 14, 28};
        for (int i = 0; i < 2; i++) {
            for (int what = 0; what < 5; what++) {
                Due.due("of(" + i + ", " + what + ")", x.of(i, what), want[5 * i + what]);
            }
        }
        Due.due("of(0, 5)", x.of(0, 5), -2);
        Due.due("of(0, -1)", x.of(0, -1), -2);
        Due.due("of(2, 0)", x.of(2, 0), -2);
        Due.due("of(-1, 0)", x.of(-1, 0), -2);
        Due.status(x, 4, 0, 0);
    }
}
