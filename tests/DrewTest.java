/** Promises 19 to 28: who drew. */
public final class DrewTest {
    public static void main(String[] args) {
        left();
        drew();
        drewByHours();
        note();
        forget();
        is();
        look();
        swaps();
        inspector();
        noons();
        years();
        Due.end();
    }

    private static void left() {
        Due.promise(19);
        WishMeter x = new WishMeter();
        Due.due("left(-1, 0)", x.left(-1, 0), -2);
        Due.due("left(8, 0)", x.left(8, 0), -2);
        Due.due("left(0, -1)", x.left(0, -1), -2);
        Due.due("left(0, 61)", x.left(0, 61), -2);
        Due.due("left(0, 0)", x.left(0, 0), 1);
        Due.due("left(7, 60)", x.left(7, 60), 2);
        Due.due("left(7, 60)", x.left(7, 60), 3);
        Due.due("left(3, 4)", x.left(3, 4), 4);
        Due.due("left(0, 0)", x.left(0, 0), -4);
        Due.due("left(8, 0)", x.left(8, 0), -2);
        Due.status(x, 5, 0, 1);
        Due.due("digest()", x.digest(), Due.digestOf(0, 30, 0, 0, 0, 4, 0, 0, 0, 0, 0, 7, 60, 7, 60, 3, 4, 0, 1));
    }

    private static void drewIs(WishMeter x, int many, int inAll, int inSome) {
        Due.due("drew(0)", x.drew(0), many);
        Due.due("drew(1)", x.drew(1), inAll);
        Due.due("drew(2)", x.drew(2), inSome);
    }

    private static void drew() {
        Due.promise(20);
        WishMeter x = Due.main(20, 0, 5, 0, 0, 5, 255, 0, 10, 2);
        drewIs(x, 8, 0, 7);
        x.left(0, 10);
        drewIs(x, 2, 0, 7);
        x.forget(0);
        x.left(0, 15);
        drewIs(x, 2, 0, 3);
        x.forget(0);
        x.left(4, 5);
        drewIs(x, 2, 4, 7);
        x.left(0, 6);
        drewIs(x, 0, -1, 0);
        Due.due("drew(-1)", x.drew(-1), -2);
        Due.due("drew(3)", x.drew(3), -2);
        Due.status(x, 2, 0, 0);
        WishMeter none = new WishMeter();
        drewIs(none, 1, 0, 0);
        none.left(3, 30);
        drewIs(none, 1, 0, 0);
        none.left(3, 29);
        drewIs(none, 0, -1, 0);
    }

    private static void drewByHours() {
        WishMeter x = Due.main(20, 0, 5, 0, 4, 5, 0);
        x.left(0, 15);
        drewIs(x, 2, 1, 3);
        x.left(1, 10);
        drewIs(x, 1, 3, 3);
        x.press(21);
        drewIs(x, 0, -1, 0);
        x.press(20);
        x.want(0, 6);
        drewIs(x, 0, -1, 0);
        x.undo();
        x.well(1, 1, 1);
        drewIs(x, 1, 3, 3);
    }

    private static void note() {
        Due.promise(21);
        WishMeter x = Due.main(9, 0, 1, 1, 1, 1, 1);
        int[][] bads = {{-1, 1, 0, 0, 0, 0}, {2, 1, 0, 0, 0, 0}, {0, 0, 0, 0, 0, 0}, {0, 21, 0, 0, 0, 0},
            {0, 1, -1, 0, 0, 0}, {0, 1, 8, 0, 0, 0}, {0, 1, 0, -1, 0, 0}, {0, 1, 0, 61, 0, 0},
            {0, 1, 0, 0, -1, 0}, {0, 1, 0, 0, 41, 0}, {0, 1, 0, 0, 0, -1}, {0, 1, 0, 0, 0, 81}};
        for (int[] b : bads) Due.due("a bad note", x.note(b[0], b[1], b[2], b[3], b[4], b[5]), -2);
        Due.due("count(6)", x.count(6), 0);
        Due.due("note", x.note(0, 1, 0, 0, 0, 0), 1);
        Due.due("note", x.note(1, 20, 7, 60, 40, 80), 2);
        for (int k = 3; k <= 6; k++) Due.due("note", x.note(0, k, k, k, k, k), k);
        Due.due("note", x.note(0, 1, 0, 0, 0, 0), -4);
        Due.due("note", x.note(0, 1, 0, 0, 0, 81), -2);
        Due.status(x, 13, 0, 1);
        Due.due("digest()", x.digest(), Due.digestOf(2, 9, 0, 0, 0, 0, 6, 0, 0, 0, 1, 1, 0, 0, 1, 1, 1, 0, 0,
            0, 1, 0, 0, 0, 0, 1, 20, 7, 60, 40, 80, 0, 3, 3, 3, 3, 3, 0, 4, 4, 4, 4, 4, 0, 5, 5, 5, 5, 5,
            0, 6, 6, 6, 6, 6, 0, 1));
    }

    private static void forget() {
        Due.promise(22);
        WishMeter x = Due.main(9, 0, 1, 1);
        Due.due("forget(0)", x.forget(0), 0);
        Due.due("forget(1)", x.forget(1), 0);
        x.left(1, 1);
        x.left(1, 1);
        x.note(0, 1, 1, 1, 1, 1);
        Due.due("forget(-1)", x.forget(-1), -2);
        Due.due("forget(2)", x.forget(2), -2);
        Due.due("forget(0)", x.forget(0), 2);
        Due.due("count(5)", x.count(5), 0);
        Due.due("count(6)", x.count(6), 1);
        x.left(1, 1);
        Due.due("forget(1)", x.forget(1), 1);
        Due.due("count(5)", x.count(5), 1);
        Due.due("count(6)", x.count(6), 0);
        Due.status(x, 2, 0, 0);
    }

    private static void is() {
        Due.promise(23);
        noteIs(0, 20, 5, 5, 1 | 4);
        noteIs(0, 20, 5, 10, 2);
        noteIs(0, 20, 5, 0, 8);
        noteIs(0, 20, 0, 0, 16);
        noteIs(0, 20, 10, 11, 32);
        noteIs(1, 20, 5, 10, 2 | 16);
        noteIs(0, 9, 2, 2, 4);
        noteIs(0, 9, 4, 5, 32);
        noteIs(0, 0, 0, 0, 63);
        noteIs(0, 0, 1, 0, 0);
        noteIs(0, 20, 5, 6, 0);
        WishMeter x = Due.main(20, 3, 1, 1, 0, 1, 1);
        x.note(0, 5, 1, 20, 5, 10);
        Due.due("is(0)", x.is(0), 2 | 16);
        Due.due("is(1)", x.is(1), 63);
        x.note(0, 5, 2, 20, 5, 10);
        Due.due("is(0)", x.is(0), 2);
        x.note(1, 5, 2, 20, 5, 5);
        Due.due("is(0)", x.is(0), 2);
        Due.due("is(1)", x.is(1), 5);
        x.note(0, 5, 2, 20, 5, 5);
        Due.due("is(0)", x.is(0), 0);
        Due.due("is(-1)", x.is(-1), -2);
        Due.due("is(2)", x.is(2), -2);
        Due.status(x, 2, 0, 0);
    }

    /** Of 5 wanted. */
    private static void noteIs(int h, int p, int g, int d, int kinds) {
        WishMeter x = Due.main(20, 3, 1, 1);
        x.note(0, 5, h, p, g, d);
        Due.due("is(0) by " + h + ", " + p + ", " + g + ", " + d, x.is(0), kinds);
    }

    private static void look() {
        Due.promise(24);
        WishMeter x = Due.main(20, 3, 2, 1, 0, 1, 1);
        Due.due("look(0): 2 tell all apart", x.look(0), 2);
        Due.due("look(1): no pressure does", x.look(1), 10);
        x.want(1, 2);
        Due.due("look(1)", x.look(1), 2);
        x.want(1, 20);
        Due.due("look(1): it goes by what is due, too", x.look(1), 2);
        x.note(0, 5, 1, 20, 5, 10);
        Due.due("look(0): town or chain", x.look(0), 1);
        x.note(0, 5, 2, 20, 5, 10);
        Due.due("look(0): town", x.look(0), 0);
        x.note(1, 20, 1, 20, 20, 20);
        Due.due("look(1): plain or upper", x.look(1), 1);
        x.note(1, 20, 1, 20, 20, 0);
        Due.due("look(1): none", x.look(1), -1);
        Due.due("look(-1)", x.look(-1), -2);
        Due.due("look(2)", x.look(2), -2);
        Due.status(x, 2, 0, 0);
    }

    private static void swaps() {
        Due.promise(25);
        WishMeter x = Due.main(12, 0, 10, 2, 4, 5, 1, 0, 5, 2, 0, 5, 2);
        long before = x.digest();
        Due.due("swaps(NONE)", x.swaps(WishMeter.NONE), 2);
        Due.due("swaps(0)", x.swaps(0), 12);
        Due.due("swaps(1)", x.swaps(1), 13);
        Due.due("swaps(2)", x.swaps(2), -5);
        Due.due("swaps(most)", x.swaps(Integer.MAX_VALUE), -5);
        Due.status(x, 0, 0, 0);
        Due.due("swaps(-2)", x.swaps(-2), -10);
        Due.status(x, 1, 0, 0);
        Due.due("digest()", x.digest(), before);
        WishMeter first = Due.main(12, 4, 5, 1, 0, 10, 2, 1, 5, 2);
        Due.due("the first one, too", first.swaps(-1), 1);
        Due.due("swaps(0)", first.swaps(0), 2);
        WishMeter like = Due.main(20, 0, 5, 1, 0, 5, 2);
        Due.due("as much is not more", like.swaps(-1), 0);
        WishMeter one = Due.main(20, 4, 5, 1, 0, 5, 2);
        Due.due("but one would", one.swaps(-1), 0);
        Due.due("no wells", new WishMeter().swaps(-1), 0);
        Due.due("no wells", new WishMeter().swaps(0), -5);
    }

    private static void inspector() {
        Due.promise(26);
        rests(0, 20, 20, 4);
        rests(1, 1, 20, 4);
        rests(0, 20, 0, 5);
        rests(2, 1, 9, 5);
        rests(5, 20, 20, 4);
        rests(3, 20, 20, 8);
        rests(3, 20, 19, 0);
        rests(3, 1, 20, 0);
        rests(3, 20, 0, 1);
        WishMeter x = Due.main(20, 4, 5, 3);
        Due.due("inspector(0, 0)", x.inspector(0, 0), 5);
        Due.due("inspector(0, 1)", x.inspector(0, 1), 4);
        Due.due("inspector(0, 2)", x.inspector(0, 2), -3);
        Due.due("inspector(0, 8)", x.inspector(0, 8), -2);
        Due.due("inspector(0, -1)", x.inspector(0, -1), -2);
        Due.due("inspector(1, 2)", x.inspector(1, 2), -2);
        Due.due("inspector(-1, 0)", x.inspector(-1, 0), -2);
        Due.status(x, 4, 1, 0);
    }

    private static void rests(int kind, int q, int p, int pairs) {
        Due.due("inspector of " + kind + ", " + q + " at " + p, Due.main(p, kind, q, 8).inspector(0, 3), pairs);
    }

    private static void noons() {
        Due.promise(27);
        noonsAre(21, 0, 20, 5, 15, 1);
        noonsAre(21, 0, 20, 1, 19, 1);
        noonsAre(21, 0, 20, 0, 20, 1);
        noonsAre(21, 0, 20, 10, 10, 1);
        noonsAre(9, 0, 7, 3, 61, 10);
        noonsAre(9, 0, 7, 5, 11, 2);
        noonsAre(0, 0, 7, 5, 0, 1);
        noonsAre(19, 2, 10, 2, 44, 5);
        WishMeter x = Due.main(19, 1, 15, 1, 0, 3, 3);
        x.noons(1, 0, 4);
        Due.due("part(0)", x.part(0), 9);
        Due.due("part(1)", x.part(1), 5);
        Due.due("noons(0, 0, 11)", x.noons(0, 0, 11), -2);
        Due.due("noons(0, 0, -1)", x.noons(0, 0, -1), -2);
        Due.due("noons(0, 8, 0)", x.noons(0, 8, 0), -2);
        Due.due("noons(0, -1, 0)", x.noons(0, -1, 0), -2);
        Due.due("noons(2, 0, 0)", x.noons(2, 0, 0), -2);
        Due.due("noons(-1, 0, 0)", x.noons(-1, 0, 0), -2);
        Due.due("part(0)", x.part(0), 9);
        Due.due("part(1)", x.part(1), 5);
        Due.due("shut then", x.noons(1, 2, 4), 1);
        Due.due("part(0)", x.part(0), 0);
        Due.due("part(1)", x.part(1), 1);
        Due.status(x, 6, 0, 0);
    }

    private static void noonsAre(int p, int kind, int q, int c, int above, int below) {
        WishMeter x = Due.main(p, kind, q, 16);
        String what = kind + ", " + q + " at " + p + " by " + c;
        Due.due("noons of " + what, x.noons(0, 4, c), 1);
        Due.due("part(0) of " + what, x.part(0), above);
        Due.due("part(1) of " + what, x.part(1), below);
        Due.due("count(1)", x.count(1), p);
    }

    /** Two wells of 20 get all up to 40 in the one hour. */
    private static void years() {
        Due.promise(28);
        WishMeter x = Due.main(7, 0, 20, 1, 3, 20, 1);
        long before = x.digest();
        int[] pressures = pressuresBy(1, 60);
        int sum = 0;
        for (int n = 0; n <= 60; n++) {
            Due.due("years(1, " + n + ")", x.years(1, n), sum);
            if (n < 60) sum += Math.min(40, pressures[n]);
        }
        Due.due("years(0, 1)", x.years(0, 1), 0);
        Due.due("years(999999, 2)", x.years(999999, 2),
            Math.min(40, pressuresBy(999999, 2)[0]) + Math.min(40, pressuresBy(999999, 2)[1]));
        Due.due("digest()", x.digest(), before);
        Due.due("years(-1, 1)", x.years(-1, 1), -2);
        Due.due("years(1000000, 1)", x.years(1000000, 1), -2);
        Due.due("years(0, -1)", x.years(0, -1), -2);
        Due.due("years(0, 61)", x.years(0, 61), -2);
        Due.status(x, 4, 0, 0);
        Due.due("no wells", new WishMeter().years(7, 60), 0);
    }

    private static int[] pressuresBy(int seed, int n) {
        java.math.BigInteger x = java.math.BigInteger.valueOf(seed);
        int[] pressures = new int[n];
        for (int k = 0; k < n; k++) {
            x = x.multiply(java.math.BigInteger.valueOf(1103515245)).add(java.math.BigInteger.valueOf(12345));
            x = x.mod(java.math.BigInteger.valueOf(2147483648L));
            pressures[k] = x.intValue() / 65536 % 61;
        }
        return pressures;
    }
}
