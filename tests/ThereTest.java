/** Promises 29 to 34: what there is. */
public final class ThereTest {
    public static void main(String[] args) {
        part();
        image();
        from();
        imagesKeepWhatMayBeUndone();
        status();
        count();
        digest();
        Due.end();
    }

    private static void part() {
        Due.promise(29);
        WishMeter x = Due.main(9, 0, 7, 1);
        Due.due("part(0)", x.part(0), 0);
        Due.due("part(1)", x.part(1), 1);
        x.noons(0, 0, 3);
        Due.due("part(0)", x.part(0), 61);
        Due.due("part(1)", x.part(1), 10);
        Due.due("part(-1)", x.part(-1), -2);
        Due.due("part(2)", x.part(2), -2);
        Due.status(x, 2, 0, 0);
    }

    private static void image() {
        Due.promise(30);
        WishMeter x = Due.main(9, 0, 7, 1);
        Due.due("image(-1)", x.image(-1), -2);
        Due.due("image(2)", x.image(2), -2);
        Due.due("image(0)", x.image(0), 1);
        x.press(8);
        Due.due("image(1)", x.image(1), 1);
        x.press(7);
        x.from(0);
        Due.due("count(1)", x.count(1), 9);
        x.from(1);
        Due.due("count(1)", x.count(1), 8);
        Due.due("image(0)", x.image(0), 1);
        x.press(6);
        x.from(0);
        Due.due("count(1)", x.count(1), 8);
        Due.status(x, 2, 0, 0);
    }

    private static void from() {
        Due.promise(31);
        WishMeter x = Due.main(9, 0, 7, 1, 5, 3, 255);
        Due.due("from(-1)", x.from(-1), -2);
        Due.due("from(2)", x.from(2), -2);
        Due.due("from(0)", x.from(0), -3);
        x.day(4);
        x.left(1, 2);
        x.note(0, 1, 2, 3, 4, 5);
        x.image(1);
        long kept = x.digest();
        Due.due("from(0)", x.from(0), -3);
        x.day(5);
        x.well(0, 1, 1);
        x.want(0, 2);
        x.turn(1, 2);
        x.press(3);
        x.forget(0);
        x.left(4, 5);
        x.forget(1);
        x.note(2, 1, 1, 1, 1, 1);
        Due.due("from(1)", x.from(1), 1);
        Due.due("digest()", x.digest(), kept);
        x.board(2);
        x.type(65);
        x.type(66);
        Due.due("from(1)", x.from(1), 1);
        Due.due("from(1)", x.from(1), 1);
        Due.due("the text stays", x.clear(), 2);
        Due.due("digest()", x.digest(), kept);
        x.noons(0, 0, 3);
        x.from(1);
        Due.due("the fraction stays", x.part(0), 61);
        Due.status(x, 2, 2, 0);
    }

    private static void imagesKeepWhatMayBeUndone() {
        WishMeter x = Due.main(9, 0, 7, 1);
        x.day(1);
        x.press(8);
        x.image(0);
        x.undo();
        x.undo();
        for (int k = 0; k < 9; k++) x.want(0, 1 + k);
        x.from(0);
        Due.due("count(7)", x.count(7), 2);
        Due.due("undo()", x.undo(), 1);
        Due.due("count(1)", x.count(1), 9);
        Due.due("of(0, 1)", x.of(0, 1), 7);
        Due.due("undo()", x.undo(), 0);
        Due.due("of(0, 3)", x.of(0, 3), 0);
        Due.due("undo()", x.undo(), -3);
        x.from(0);
        Due.due("it still keeps them", x.count(7), 2);
    }

    private static void status() {
        Due.promise(32);
        WishMeter x = new WishMeter();
        Due.status(x, 0, 0, 0);
        Due.due("status(3)", x.status(3), -1);
        Due.due("status(-1)", x.status(-1), -1);
        Due.status(x, 2, 0, 0);
        x.undo();
        x.from(1);
        Due.status(x, 2, 2, 0);
        for (int k = 0; k < 7; k++) x.well(4, 10, 0);
        Due.status(x, 2, 2, 2);
        x.press(10);
        x.fair(0);
        x.swaps(9);
        x.shut(0);
        x.read();
        x.board(61);
        x.turns(-2);
        x.fair(7);
        x.swaps(-2);
        x.count(9);
        x.inspector(0, 0);
        Due.status(x, 7, 3, 2);
        x.board(3);
        x.image(0);
        x.from(0);
        Due.status(x, 7, 3, 2);
    }

    private static void count() {
        Due.promise(33);
        WishMeter x = Due.main(20, 0, 5, 255, 1, 7, 3, 5, 1, 1);
        x.day(2);
        x.press(21);
        x.left(1, 2);
        x.left(1, 3);
        x.note(0, 1, 2, 3, 4, 5);
        x.note(0, 1, 2, 3, 4, 5);
        x.note(0, 1, 2, 3, 4, 5);
        Due.type(x, "mains");
        int[] want = {3, 21, 2, 108, 136, 2, 3, 2, 5};
        for (int what = 0; what < 9; what++) Due.due("count(" + what + ")", x.count(what), want[what]);
        Due.due("count(-1)", x.count(-1), -2);
        Due.due("count(9)", x.count(9), -2);
        Due.status(x, 2, 0, 0);
    }

    private static void digest() {
        Due.promise(34);
        WishMeter x = Due.main(20, 0, 5, 255, 1, 7, 3);
        x.day(1);
        x.left(1, 2);
        x.left(7, 4);
        x.note(1, 20, 2, 3, 4, 5);
        x.noons(0, 0, 10);
        x.type(1);
        long want = Due.digestOf(2, 20, 1, 54, 68, 2, 1, 1, 1, 0, 5, 255, 40, 40, 1, 7, 3, 14, 28,
            1, 2, 7, 4, 1, 20, 2, 3, 4, 5, 5, 1);
        Due.due("digest()", x.digest(), want);
        Due.due("digest()", x.digest(), want);
        x.count(9);
        x.undo();
        x.undo();
        Due.due("digest()", x.digest(), Due.digestOf(2, 20, 0, 0, 0, 2, 1, 0, 1, 0, 5, 255, 0, 0, 1, 7, 3, 0, 0,
            1, 2, 7, 4, 1, 20, 2, 3, 4, 5, 5, 1));
    }
}
