/** The edges of who drew: LEFT ones, sets, NOTES, kinds, looks, swaps, the inspector, noons, years. */
public final class DrewEdgesTest {
    private static final int PLAIN = 0, TOWN = 1, UPPER = 2, WIRE = 3, CHAIN = 4, RUNNING = 5;
    private static final int LEAST = Integer.MIN_VALUE, MOST = Integer.MAX_VALUE;

    public static void main(String[] args) {
        left();
        drewSets();
        drewOneSet();
        drewAsNow();
        drewRefused();
        note();
        noteRefused();
        forget();
        forgetEmpty();
        isByNotes();
        isOwnNotes();
        look();
        lookAlike();
        lookOfEachSet();
        lookNone();
        swaps();
        swapsMore();
        swapsRefused();
        inspectorOpen();
        inspectorRests();
        noonsMean();
        noonsHalf();
        noonsRefused();
        years();
        yearsRefused();
        Due.end();
    }

    private static void left() {
        Due.says("LEFT ones 0 .. 3, as they come: in HOUR h, PRESSURE x (0 .. 60) was LEFT behind all.");
        WishMeter x = new WishMeter();
        Due.due("none", x.count(5), 0);
        for (int h : new int[] {-1, 8, 256, LEAST, MOST}) Due.due("left in " + h, x.left(h, 0), -2);
        for (int p : new int[] {-1, 61, 256, LEAST, MOST}) Due.due("left of " + p, x.left(0, p), -2);
        Due.due("none", x.count(5), 0);
        Due.due("left(0, 0)", x.left(0, 0), 1);
        Due.due("left(0, 60)", x.left(0, 60), 2);
        Due.due("left(7, 0)", x.left(7, 0), 3);
        Due.due("left(7, 60)", x.left(7, 60), 4);
        Due.due("a 5th", x.left(7, 60), -4);
        Due.due("count(5)", x.count(5), 4);
        Due.status(x, 10, 0, 1);
        Due.due("as they come", x.digest(), Due.digestOf(0, 30, 0, 0, 0, 4, 0, 0, 0, 0, 0, 0, 60, 7, 0, 7, 60, 0, 1));
        Due.due("may not be undone", x.undo(), -3);
        x.forget(0);
        Due.due("the first again", x.left(3, 3), 1);
    }

    private static void drewIs(WishMeter x, int many, int inAll, int inSome) {
        Due.due("drew(0)", x.drew(0), many);
        Due.due("drew(1)", x.drew(1), inAll);
        Due.due("drew(2)", x.drew(2), inSome);
    }

    private static void drewSets() {
        Due.says("DREW: sets of WELLS that may have been OPEN (whenever they are)");
        WishMeter x = Due.main(60);
        drewIs(x, 1, 0, 0);
        for (int k = 1; k <= 5; k++) {
            x.well(PLAIN, 1 << k - 1, 0);
            drewIs(x, 1 << k, 0, (1 << k) - 1);
        }
        x.left(0, 60);
        drewIs(x, 1, 0, 0);
        x.forget(0);
        x.left(7, 60 - 31);
        drewIs(x, 1, 31, 31);
        x.forget(0);
        x.left(7, 60 - 21);
        drewIs(x, 1, 21, 21);
        x.forget(0);
        x.left(7, 60 - 32);
        drewIs(x, 0, -1, 0);
        x.forget(0);
        x.left(7, 0);
        drewIs(x, 0, -1, 0);
        x.press(31);
        drewIs(x, 1, 31, 31);
        x.press(0);
        drewIs(x, 32, 0, 31);
        x.forget(0);
        x.left(0, 1);
        drewIs(x, 0, -1, 0);
    }

    private static void drewOneSet() {
        Due.says("one and the same set in all of these HOURS, THE MAIN's PRESSURE, WANTED as now: how many; WELLS"
            + " (bits) in all of them, in some.");
        WishMeter x = Due.main(20, PLAIN, 5, 0, CHAIN, 5, 0, WIRE, 5, 0);
        x.left(0, 15);
        drewIs(x, 4, 0, 7);
        x.left(1, 15);
        drewIs(x, 2, 0, 5);
        x.left(2, 15);
        drewIs(x, 2, 0, 5);
        x.left(3, 15);
        drewIs(x, 2, 0, 5);
        x.forget(0);
        x.left(0, 15);
        x.left(1, 10);
        drewIs(x, 2, 2, 7);
        x.left(2, 20);
        drewIs(x, 0, -1, 0);
        x.forget(0);
        x.left(4, 20);
        drewIs(x, 2, 0, 2);
        x.left(4, 15);
        drewIs(x, 0, -1, 0);
    }

    private static void drewAsNow() {
        WishMeter x = Due.main(20, PLAIN, 5, 255, PLAIN, 7, 0);
        x.left(0, 15);
        drewIs(x, 1, 1, 1);
        x.turn(0, 0);
        x.turn(1, 255);
        drewIs(x, 1, 1, 1);
        x.press(22);
        drewIs(x, 1, 2, 2);
        x.want(0, 7);
        drewIs(x, 2, 0, 3);
        x.undo();
        x.undo();
        drewIs(x, 1, 1, 1);
        x.well(UPPER, 5, 0);
        drewIs(x, 2, 0, 5);
    }

    private static void drewRefused() {
        Due.says("`int drew(int what)`: DREW: how many (0), in all (1; bits; NONE: no set), in some (2; bits). BAD.");
        WishMeter x = Due.main(20, PLAIN, 5, 255);
        for (int bad : new int[] {-1, 3, 4, 256, LEAST, MOST}) Due.due("drew(" + bad + ")", x.drew(bad), -2);
        Due.status(x, 6, 0, 0);
        x.left(0, 16);
        drewIs(x, 0, -1, 0);
        Due.status(x, 6, 0, 0);
    }

    private static void note() {
        Due.says("NOTES 0 .. 5, as they come: of q (1 .. 20) WANTED a WELL GOT g (0 .. 40) in HOUR h at PRESSURE p"
            + " (0 .. 60), d (0 .. 80) was DUE.");
        WishMeter x = Due.main(9, PLAIN, 1, 0, PLAIN, 1, 0, PLAIN, 1, 0, PLAIN, 1, 0, PLAIN, 1, 0);
        Due.due("none", x.count(6), 0);
        Due.due("the least", x.note(0, 1, 0, 0, 0, 0), 1);
        Due.due("the most", x.note(4, 20, 7, 60, 40, 80), 2);
        Due.due("g, d", x.note(0, 1, 0, 0, 40, 0), 3);
        Due.due("q, d", x.note(0, 20, 0, 0, 0, 80), 4);
        Due.due("h", x.note(0, 1, 7, 0, 0, 0), 5);
        Due.due("p", x.note(0, 1, 0, 60, 0, 0), 6);
        Due.due("a 7th", x.note(0, 1, 0, 60, 0, 0), -4);
        Due.due("count(6)", x.count(6), 6);
        Due.due("as they come", x.digest(), Due.digestOf(5, 9, 0, 0, 0, 0, 6, 0, 0, 0, 1, 0, 0, 0, 0, 1, 0, 0, 0, 0, 1,
            0, 0, 0, 0, 1, 0, 0, 0, 0, 1, 0, 0, 0, 0, 1, 0, 0, 0, 0, 4, 20, 7, 60, 40, 80, 0, 1, 0, 0, 40, 0, 0, 20, 0,
            0, 0, 80, 0, 1, 7, 0, 0, 0, 0, 1, 0, 60, 0, 0, 0, 1));
        Due.due("may not be undone", x.undo(), -3);
        x.forget(1);
        Due.due("the first again", x.note(3, 3, 3, 3, 3, 3), 1);
        Due.status(x, 0, 1, 1);
    }

    private static void noteRefused() {
        Due.says("`int note(int i, int q, int h, int p, int g, int d)`: A NOTE: how many there are. BAD; FULL: 6.");
        WishMeter x = Due.main(9, PLAIN, 1, 0, PLAIN, 1, 0);
        int[] above = {2, 21, 8, 61, 41, 81};
        int[] below = {-1, 0, -1, -1, -1, -1};
        for (int at = 0; at < 6; at++) {
            for (int bad : new int[] {above[at], below[at], 256, LEAST, MOST}) {
                int[] v = {1, 1, 0, 0, 0, 0};
                v[at] = bad;
                Due.due("note with " + bad + " at " + at, x.note(v[0], v[1], v[2], v[3], v[4], v[5]), -2);
            }
        }
        Due.due("none came", x.count(6), 0);
        Due.status(x, 30, 0, 0);
        Due.due("no wells", new WishMeter().note(0, 1, 0, 0, 0, 0), -2);
    }

    private static void forget() {
        Due.says("`int forget(int what)`: No LEFT ones (0), NOTES (1): how many there were. BAD.");
        WishMeter x = Due.main(9, PLAIN, 1, 0);
        for (int k = 0; k < 4; k++) x.left(k, k);
        for (int k = 0; k < 6; k++) x.note(0, 1, k, k, k, k);
        for (int bad : new int[] {-1, 2, 3, 256, LEAST, MOST}) Due.due("forget(" + bad + ")", x.forget(bad), -2);
        Due.due("four stay", x.count(5), 4);
        Due.due("six stay", x.count(6), 6);
        Due.due("of four", x.forget(0), 4);
        Due.due("none", x.count(5), 0);
        Due.due("six stay", x.count(6), 6);
        Due.due("of six", x.forget(1), 6);
        Due.due("none", x.count(6), 0);
        Due.due("is(0)", x.is(0), 63);
        Due.due("drew(0)", x.drew(0), 2);
        Due.status(x, 6, 0, 0);
    }

    private static void forgetEmpty() {
        WishMeter x = new WishMeter();
        Due.due("of no LEFT ones", x.forget(0), 0);
        Due.due("of no NOTES", x.forget(1), 0);
        x.left(1, 1);
        Due.due("the other stays", x.forget(1), 0);
        Due.due("of one", x.forget(0), 1);
        Due.due("again", x.forget(0), 0);
        Due.status(x, 0, 0, 0);
    }

    private static void isNote(int q, int h, int p, int g, int d, int kinds) {
        WishMeter x = Due.main(1, WIRE, 1, 0);
        x.note(0, q, h, p, g, d);
        Due.due("is(0) by " + q + ", " + h + ", " + p + ", " + g + ", " + d, x.is(0), kinds);
    }

    private static void isByNotes() {
        Due.says("IS: KINDS (bits) by which all NOTES of it are so.");
        isNote(1, 0, 0, 0, 0, 63);
        isNote(20, 7, 0, 0, 0, 63);
        isNote(20, 7, 0, 1, 1, 0);
        isNote(20, 0, 60, 0, 0, 1 << CHAIN);
        isNote(20, 1, 60, 20, 40, 1 << TOWN | 1 << CHAIN);
        isNote(20, 1, 60, 20, 20, 1 << PLAIN | 1 << UPPER);
        isNote(20, 1, 60, 20, 0, 1 << WIRE);
        isNote(20, 1, 60, 40, 41, 1 << RUNNING);
        isNote(20, 1, 60, 40, 40, 0);
        isNote(20, 1, 60, 40, 80, 0);
        isNote(20, 1, 10, 10, 10, 1 << PLAIN | 1 << UPPER);
        isNote(20, 1, 9, 9, 9, 1 << PLAIN);
        isNote(20, 1, 9, 4, 4, 1 << UPPER);
        isNote(20, 1, 9, 8, 9, 1 << RUNNING);
        isNote(1, 1, 9, 0, 0, 1 << UPPER | 1 << RUNNING);
        isNote(1, 0, 9, 0, 0, 1 << UPPER | 1 << RUNNING | 1 << CHAIN);
        isNote(1, 0, 10, 2, 3, 1 << RUNNING);
    }

    private static void isOwnNotes() {
        Due.says("`int is(int i)`: IS, as bits. BAD.");
        WishMeter x = Due.main(1, WIRE, 1, 0, WIRE, 1, 0, WIRE, 1, 0, WIRE, 1, 0, WIRE, 1, 0);
        for (int i = 0; i < 5; i++) Due.due("no NOTES of " + i, x.is(i), 63);
        x.note(4, 5, 1, 20, 5, 10);
        Due.due("of the last", x.is(4), 1 << TOWN | 1 << CHAIN);
        Due.due("of another", x.is(3), 63);
        for (int k = 0; k < 4; k++) x.note(0, 5, 1, 20, 5, 5);
        x.note(4, 5, 0, 20, 5, 10);
        Due.due("by the 6th, too", x.is(4), 1 << TOWN);
        Due.due("all say one", x.is(0), 1 << PLAIN | 1 << UPPER);
        for (int bad : new int[] {-1, 5, 256, LEAST, MOST}) Due.due("is(" + bad + ")", x.is(bad), -2);
        Due.due("no wells", new WishMeter().is(0), -2);
        Due.status(x, 5, 0, 0);
    }

    private static void look() {
        Due.says("LOOK: 100 h and p (h 0, 1; p 0 .. 30) by which the most of these KINDS that GET, have DUE alike,"
            + " of what is WANTED of it, are fewest; of like ones the least;");
        int[] of = {0, 10, 2, 2};
        for (int q = 1; q < 4; q++) {
            WishMeter x = Due.main(1, WIRE, q, 0);
            Due.due("all kinds, " + q + " wanted", x.look(0), of[q]);
        }
        WishMeter x = Due.main(1, WIRE, 20, 0);
        Due.due("20 wanted", x.look(0), 2);
        x.want(0, 1);
        Due.due("of what is wanted now", x.look(0), 10);
    }

    private static void lookAlike() {
        WishMeter x = Due.main(1, WIRE, 5, 0);
        x.note(0, 5, 1, 20, 5, 5);
        Due.due("plain, upper at 1", x.look(0), 1);
        x.note(0, 5, 1, 9, 5, 5);
        Due.due("one kind", x.look(0), 0);
        x.forget(1);
        x.note(0, 1, 0, 9, 0, 0);
        Due.due("upper, chain, running of 5 at 2", x.look(0), 2);
        x.want(0, 1);
        Due.due("upper, chain, running of 1 at 10", x.look(0), 10);
        x.note(0, 20, 0, 60, 0, 0);
        Due.due("chain", x.look(0), 0);
        x.forget(1);
        x.note(0, 1, 1, 60, 1, 2);
        Due.due("town, chain", x.look(0), 1);
        x.forget(1);
        x.note(0, 1, 1, 9, 0, 0);
        Due.due("upper, running of 1", x.look(0), 10);
    }

    /** Each set of KINDS that notes can leave, by one that leaves it: q, h, p, g, d; where to look of 1, of more. */
    private static void lookOfEachSet() {
        int[][] sets = {{20, 1, 9, 9, 9, 1, 0, 0}, {20, 0, 60, 20, 40, 2, 0, 0}, {20, 1, 9, 4, 4, 4, 0, 0},
            {20, 1, 60, 20, 20, 5, 1, 1}, {20, 1, 60, 20, 0, 8, 0, 0}, {20, 0, 60, 0, 0, 16, 0, 0},
            {20, 1, 60, 20, 40, 18, 1, 1}, {20, 1, 60, 40, 41, 32, 0, 0}, {1, 1, 9, 0, 0, 36, 10, 2},
            {1, 0, 9, 0, 0, 52, 10, 2}, {20, 7, 0, 0, 0, 63, 10, 2}, {20, 7, 0, 0, 1, 0, -1, -1}};
        for (int[] s : sets) {
            WishMeter x = Due.main(1, WIRE, 1, 0);
            x.note(0, s[0], s[1], s[2], s[3], s[4]);
            Due.due("is(0)", x.is(0), s[5]);
            Due.due("look(0) of 1 by kinds " + s[5], x.look(0), s[6]);
            for (int q = 2; q <= 20; q++) {
                x.want(0, q);
                Due.due("look(0) of " + q + " by kinds " + s[5], x.look(0), s[7]);
            }
        }
    }

    private static void lookNone() {
        Due.says("`int look(int i)`: LOOK. NONE. BAD.");
        WishMeter x = Due.main(1, WIRE, 5, 0, WIRE, 5, 0);
        x.note(0, 5, 1, 20, 40, 80);
        Due.due("no KIND", x.look(0), -1);
        Due.due("the other", x.look(1), 2);
        for (int bad : new int[] {-1, 2, 5, 256, LEAST, MOST}) Due.due("look(" + bad + ")", x.look(bad), -2);
        Due.due("no wells", new WishMeter().look(0), -2);
        Due.status(x, 6, 0, 0);
    }

    private static void swaps() {
        Due.says("pairs i less than j of WELLS each of which would GET more in a day, if both had each other's HOURS:"
            + " how many; the k-th (10 i and j).");
        WishMeter x = Due.main(10, PLAIN, 10, 2, PLAIN, 10, 1, CHAIN, 9, 4, CHAIN, 9, 8, PLAIN, 5, 2);
        Due.due("none: each has its own", x.swaps(-1), 0);
        x = Due.main(19, PLAIN, 10, 2, CHAIN, 9, 1, CHAIN, 9, 4, CHAIN, 9, 16, PLAIN, 10, 2);
        Due.due("how many", x.swaps(-1), 3);
        Due.due("the 0th", x.swaps(0), 14);
        Due.due("the 1st", x.swaps(1), 24);
        Due.due("the 2nd", x.swaps(2), 34);
        Due.due("the 3rd", x.swaps(3), -5);
        Due.due("the hours stay", x.of(1, 2), 1);
        x = Due.main(10, CHAIN, 9, 1, PLAIN, 9, 6);
        Due.due("one would get less", x.swaps(-1), 0);
        x = Due.main(20, CHAIN, 10, 1, CHAIN, 9, 4, PLAIN, 10, 2, PLAIN, 10, 2, PLAIN, 10, 2);
        Due.due("the first pairs", x.swaps(-1), 2);
        Due.due("0 and 4", x.swaps(0), 4);
        Due.due("1 and 4", x.swaps(1), 14);
    }

    private static void swapsMore() {
        WishMeter x = Due.main(10, PLAIN, 5, 1, PLAIN, 5, 2);
        Due.due("as much", x.swaps(-1), 0);
        Due.due("like hours", Due.main(5, PLAIN, 5, 1, PLAIN, 5, 1).swaps(-1), 0);
        Due.due("shut ones", Due.main(5, PLAIN, 5, 0, PLAIN, 5, 0).swaps(-1), 0);
        Due.due("no pressure", Due.main(0, CHAIN, 5, 1, PLAIN, 5, 2).swaps(-1), 0);
        Due.due("one well", Due.main(5, CHAIN, 5, 1).swaps(-1), 0);
        Due.due("no wells", new WishMeter().swaps(-1), 0);
        x = Due.main(10, PLAIN, 10, 2, CHAIN, 5, 1, TOWN, 5, 2);
        Due.due("the town would get 5, the chain still 0", x.swaps(-1), 0);
        x.press(11);
        Due.due("the town would get 5 for 1, the chain 1 for 0", x.swaps(-1), 1);
        Due.due("1 and 2", x.swaps(0), 12);
        x.press(15);
        Due.due("the town has its 5", x.swaps(-1), 0);
    }

    private static void swapsRefused() {
        Due.says("`int swaps(int k)`: SWAPS: how many (k = NONE), the k-th. -5: not so many. BAD: -10.");
        WishMeter x = Due.main(60, PLAIN, 1, 1, PLAIN, 1, 1);
        for (int k : new int[] {0, 1, 10, 255, 256, MOST}) Due.due("swaps(" + k + ")", x.swaps(k), -5);
        Due.status(x, 0, 0, 0);
        for (int k : new int[] {-2, -3, -5, -10, -257, LEAST}) Due.due("swaps(" + k + ")", x.swaps(k), -10);
        Due.status(x, 6, 0, 0);
    }

    private static void inspectorOpen() {
        Due.says("he looks into a WELL in an HOUR in which it is OPEN (NO: it is not)");
        WishMeter x = Due.main(30, PLAIN, 5, 128, PLAIN, 5, 1, PLAIN, 5, 0);
        Due.due("in 7", x.inspector(0, 7), 4);
        Due.due("in 6", x.inspector(0, 6), -3);
        Due.due("in 0", x.inspector(0, 0), -3);
        Due.due("in 0", x.inspector(1, 0), 4);
        Due.due("in 7", x.inspector(1, 7), -3);
        for (int h = 0; h < 8; h++) Due.due("shut in " + h, x.inspector(2, h), -3);
        Due.status(x, 0, 11, 0);
        for (int bad : new int[] {-1, 8, 256, LEAST, MOST}) Due.due("in " + bad, x.inspector(2, bad), -2);
        for (int bad : new int[] {-1, 3, 5, 256, LEAST, MOST}) Due.due("of " + bad, x.inspector(bad, 1), -2);
        Due.status(x, 11, 11, 0);
    }

    private static void rests(int kind, int q, int p, int pairs) {
        Due.due("kind " + kind + " of " + q + " at " + p, Due.main(p, kind, q, 255).inspector(0, 6), pairs);
    }

    private static void inspectorRests() {
        Due.says("to the WELL what it GETS, if it draws, 20 less, if he looks and its KIND is WIRE, else 0; to him, if"
            + " he looks, 5, if a WIRE draws, else -1, 0, if he does not: pairs that rest (bits: 0 looks not, draws"
            + " not; 1 looks; 2 draws; 3 both; neither would get more by doing otherwise).");
        rests(WIRE, 20, 0, 1);
        rests(WIRE, 20, 1, 0);
        rests(WIRE, 20, 19, 0);
        rests(WIRE, 20, 20, 8);
        rests(WIRE, 20, 60, 8);
        rests(WIRE, 19, 60, 0);
        rests(WIRE, 1, 60, 0);
        for (int kind = 0; kind < 6; kind++) {
            if (kind == WIRE) continue;
            rests(kind, 20, 0, 5);
            rests(kind, 20, 60, kind == CHAIN ? 5 : 4);
        }
        rests(PLAIN, 1, 1, 4);
        rests(UPPER, 1, 9, 5);
        rests(RUNNING, 20, 1, 5);
        rests(RUNNING, 20, 2, 4);
        WishMeter x = Due.main(20, PLAIN, 20, 1, WIRE, 20, 3);
        Due.due("a dry wire", x.inspector(1, 0), 1);
        Due.due("a wet wire", x.inspector(1, 1), 8);
    }

    private static void noonsAre(WishMeter x, int c, int above, int below) {
        Due.due("noons by " + c, x.noons(0, 0, c), 1);
        Due.due("above by " + c, x.part(0), above);
        Due.due("below by " + c, x.part(1), below);
    }

    private static void noonsMean() {
        Due.says("NOONS: by c of 10 (0 .. 10) THE MAIN has but half (cut) of its PRESSURE in an HOUR: what a WELL GETS"
            + " in it, in the mean: THE FRACTION.");
        WishMeter x = Due.main(3, PLAIN, 20, 1);
        int[] above = {3, 14, 13, 12, 11, 2, 9, 8, 7, 6, 1};
        int[] below = {1, 5, 5, 5, 5, 1, 5, 5, 5, 5, 1};
        for (int c = 0; c <= 10; c++) noonsAre(x, c, above[c], below[c]);
        x = Due.main(1, PLAIN, 20, 1);
        int[] aboveOf1 = {1, 9, 4, 7, 3, 1, 2, 3, 1, 1, 0};
        int[] belowOf1 = {1, 10, 5, 10, 5, 2, 5, 10, 5, 10, 1};
        for (int c = 0; c <= 10; c++) noonsAre(x, c, aboveOf1[c], belowOf1[c]);
        Due.due("the pressure stays", x.count(1), 1);
    }

    private static void noonsHalf() {
        Due.says("THE FRACTION is 0 by 1 at first; lowest terms, below above 0.");
        noonsAre(Due.main(0, PLAIN, 20, 1), 5, 0, 1);
        noonsAre(Due.main(60, PLAIN, 20, 0), 5, 0, 1);
        noonsAre(Due.main(60, PLAIN, 20, 254), 5, 0, 1);
        noonsAre(Due.main(60, CHAIN, 20, 255), 5, 0, 1);
        noonsAre(Due.main(60, RUNNING, 20, 255), 10, 30, 1);
        noonsAre(Due.main(60, RUNNING, 20, 255), 0, 40, 1);
        noonsAre(Due.main(60, RUNNING, 20, 255), 3, 37, 1);
        noonsAre(Due.main(20, UPPER, 20, 1), 10, 10, 1);
        noonsAre(Due.main(19, UPPER, 20, 1), 10, 4, 1);
        noonsAre(Due.main(19, UPPER, 20, 1), 1, 35, 2);
        WishMeter x = Due.main(20, PLAIN, 10, 128, PLAIN, 10, 128);
        Due.due("behind, in 7", x.noons(1, 7, 1), 1);
        Due.due("above", x.part(0), 9);
        Due.due("below", x.part(1), 1);
    }

    private static void noonsRefused() {
        Due.says("`int noons(int i, int h, int c)`: NOONS are THE FRACTION: 1. BAD.");
        WishMeter x = Due.main(3, PLAIN, 20, 1, PLAIN, 1, 1);
        noonsAre(x, 1, 14, 5);
        for (int bad : new int[] {-1, 11, 12, 256, LEAST, MOST}) Due.due("by " + bad, x.noons(0, 0, bad), -2);
        for (int bad : new int[] {-1, 8, 256, LEAST, MOST}) Due.due("in " + bad, x.noons(0, bad, 0), -2);
        for (int bad : new int[] {-1, 2, 5, 256, LEAST, MOST}) Due.due("of " + bad, x.noons(bad, 0, 0), -2);
        Due.due("above stays", x.part(0), 14);
        Due.due("below stays", x.part(1), 5);
        Due.status(x, 17, 0, 0);
    }

    /** By seed 1 it is an old random function, whose first numbers are known to be 16838, 5758, 10113. */
    private static void years() {
        Due.says("YEARS by a SEED (0 .. 999999), n (0 .. 60) DAYS: X is SEED at first; each DAY X becomes X times"
            + " 1103515245 and 12345, by 2147483648 what is left over; X by 65536 (cut), by 61 left over, is THE"
            + " MAIN's PRESSURE on it: what all GET in them.");
        WishMeter x = Due.main(0, RUNNING, 20, 128, PLAIN, 20, 128);
        Due.due("0 days", x.years(0, 0), 0);
        Due.due("0 days", x.years(999999, 0), 0);
        Due.due("seed 0, 1 day", x.years(0, 1), 0);
        Due.due("seed 1, 1 day", x.years(1, 1), 16838 % 61);
        Due.due("seed 1, 2 days", x.years(1, 2), 16838 % 61 + 5758 % 61);
        Due.due("seed 1, 3 days", x.years(1, 3), 16838 % 61 + 5758 % 61 + 10113 % 61);
        Due.due("the day stays", x.count(2), 0);
        Due.due("had stays", x.count(3), 0);
        Due.due("the pressure stays", x.count(1), 0);
        Due.due("all at all pressures", x.years(999999, 60), yearsOf(999999, 60));
        for (int k = 0; k < 34; k++) x.day(30);
        Due.due("behind the last day", x.years(7, 60), yearsOf(7, 60));
        Due.due("no wells", new WishMeter().years(999999, 60), 0);
        Due.due("shut", Due.main(60, PLAIN, 20, 0).years(999999, 60), 0);
    }

    /** The two wells take all that there is, up to 60. */
    private static int yearsOf(int seed, int n) {
        int sum = 0;
        int x = seed;
        for (int k = 0; k < n; k++) {
            x = x * 1103515245 + 12345 & Integer.MAX_VALUE;
            int p = (x >> 16) % 61;
            sum += p < 10 ? 2 * (p / 2) + Math.min(20, p - 2 * (p / 2)) : p;
        }
        return sum;
    }

    private static void yearsRefused() {
        Due.says("`int years(int seed, int n)`: YEARS. BAD.");
        WishMeter x = Due.main(60, PLAIN, 20, 1);
        for (int bad : new int[] {-1, 1000000, 1000001, LEAST, MOST}) {
            Due.due("seed " + bad, x.years(bad, 1), -2);
            Due.due("seed " + bad + ", 0 days", x.years(bad, 0), -2);
        }
        for (int bad : new int[] {-1, 61, 256, LEAST, MOST}) Due.due("days " + bad, x.years(0, bad), -2);
        Due.status(x, 15, 0, 0);
    }
}
