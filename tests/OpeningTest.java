/** The document's opening words, phrase by phrase, of one main: town, upper, chain, wire along it, all day open. */
public final class OpeningTest {
    private static final int PLAIN = 0, TOWN = 1, UPPER = 2, WIRE = 3, CHAIN = 4, RUNNING = 5;
    private static final int HAD = 3, DUE = 4;

    public static void main(String[] args) {
        aBoard();
        aClerk();
        chainAndTurns();
        upHere();
        noon();
        wire();
        kinds();
        days();
        exactly();
        theTurns();
        leastAndShut();
        whoDrew();
        whatAWellIs();
        swapsAndInspector();
        noonsAndYears();
        text();
        imagesAndRefused();
        Due.end();
    }

    /** In even hours they get 12, 4, 0, 4 of 20, in odd ones 12, 4, 4, 0. */
    private static WishMeter village() {
        return Due.main(20, TOWN, 12, 255, UPPER, 9, 255, CHAIN, 6, 255, WIRE, 5, 255);
    }

    private static void aBoard() {
        Due.says("Wishing wells were metered: a board took them over, and you put it in there at so much a gallon");
        WishMeter x = village();
        Due.due("a gallon from the town's", x.daily(0, 1), 2 * 8 * 12);
        Due.due("a gallon from up here", x.daily(1, 1), 8 * 4);
        Due.due("the board", x.board(25), 4);
        Due.due("none is left", x.count(0), 0);
    }

    private static void aClerk() {
        Due.says("a clerk comes round with a lid key and reads off what's been had, so folk are careful");
        WishMeter x = village();
        x.day(1);
        x.day(2);
        int[] had = {3 * 96, 3 * 32, 3 * 16, 3 * 16};
        int[] due = {3 * 192, 3 * 32, 3 * 32, 0};
        for (int i = 0; i < 4; i++) {
            Due.due("had of " + i, x.of(i, HAD), had[i]);
            Due.due("due of " + i, x.of(i, DUE), due[i]);
        }
        Due.due("had by all", x.count(3), 3 * 160);
        Due.due("due by all", x.count(4), 3 * 256);
        x.want(0, 1);
        Due.due("careful folk: what was had stays", x.of(0, HAD), 3 * 96);
        Due.due("they get less of a day", x.daily(0, 0), 8);
    }

    private static void chainAndTurns() {
        Due.says("they've got it on a chain for the village, in turns");
        WishMeter x = village();
        for (int h = 0; h < 8; h++) Due.due("the chain in " + h, x.hour(2, h, 0), h % 2 == 1 ? 4 : 0);
        Due.due("its turns", x.turn(2, 6), 255);
        for (int h = 0; h < 8; h++) Due.due("in turns, in " + h, x.hour(2, h, 0), h == 1 ? 4 : 0);
    }

    private static void upHere() {
        Due.says("the pressure has gone, up here, since they're on it in the town");
        WishMeter x = village();
        Due.due("pressure up here", x.hour(1, 0, 1), 8);
        Due.due("gets", x.hour(1, 0, 0), 4);
        x.turn(0, 254);
        Due.due("pressure, the town's shut", x.hour(1, 0, 1), 20);
        Due.due("gets", x.hour(1, 0, 0), 9);
        Due.due("an hour later it has gone", x.hour(1, 1, 0), 4);
    }

    private static void noon() {
        Due.says("at noon it's just a sort of a wanting in the pipe");
        WishMeter x = village();
        Due.due("by 10 of 10", x.noons(1, 0, 10), 1);
        Due.due("nothing above", x.part(0), 0);
        Due.due("below", x.part(1), 1);
    }

    private static void wire() {
        Due.says("a fellow with a bent wire has been having his from next door's for years;");
        WishMeter x = village();
        for (int k = 0; k < 34; k++) x.day(30);
        Due.due("had", x.of(3, HAD), 999 * 16);
        Due.due("due", x.of(3, DUE), 0);
    }

    private static void kinds() {
        Due.says("wells along one main, by hours, of kinds over one another, plain ones, town ones, upper ones, wires,"
            + " chains, running ones, with what is wanted of each;");
        int[] gets = {6, 6, 3, 6, 6, 6};
        int[] due = {6, 12, 3, 0, 12, 7};
        for (int kind = PLAIN; kind <= RUNNING; kind++) {
            WishMeter x = Due.main(9, kind, 6, 8);
            Due.due("kind", x.of(0, 0), kind);
            Due.due("wanted", x.of(0, 1), 6);
            Due.due("hours", x.of(0, 2), 8);
            Due.due("gets", x.daily(0, 0), gets[kind]);
            Due.due("due", x.daily(0, 1), due[kind]);
        }
    }

    private static void days() {
        Due.says("days that go by, turns changed, wants told, undone;");
        WishMeter x = village();
        Due.due("a day", x.day(1), 160);
        Due.due("a turn", x.turn(3, 1), 255);
        Due.due("a want", x.want(0, 14), 12);
        Due.due("a day: 14, 3 and 3 by the chain or the wire's hour", x.day(1), 8 * 17 + 4 * 3 + 3);
        for (int k = 0; k < 3; k++) Due.due("undone", x.undo(), 1);
        Due.due("as told first", x.daily(-1, 0), 160);
        Due.due("had by all", x.count(3), 160);
        Due.due("undone", x.undo(), 0);
        Due.due("had by all", x.count(3), 0);
    }

    private static void exactly() {
        Due.says("what each gets when, at which pressure, what is due, exactly;");
        WishMeter x = village();
        int[] ahead = {20, 8, 4, 4};
        int[] even = {12, 4, 0, 4};
        for (int i = 0; i < 4; i++) {
            Due.due("gets in 6", x.hour(i, 6, 0), even[i]);
            Due.due("ahead in 6", x.hour(i, 6, 1), ahead[i]);
            Due.due("left in 6", x.hour(i, 6, 2), 0);
        }
        Due.due("gets", x.daily(-1, 0), 160);
        Due.due("due", x.daily(-1, 1), 256);
    }

    private static void theTurns() {
        Due.says("the turns by which most is had, all is had for least;");
        WishMeter x = village();
        int[] hours = {0, 1, 1, 0};
        Due.due("most", x.turns(-1), 12 + 9 + 6 + 5);
        Due.due("least", x.fair(-1), 24 + 9 + 12);
        for (int i = 0; i < 4; i++) {
            Due.due("turns(" + i + ")", x.turns(i), hours[i]);
            Due.due("fair(" + i + ")", x.fair(i), hours[i]);
        }
    }

    private static void leastAndShut() {
        Due.says("the least pressure; which to shut for one;");
        WishMeter x = village();
        Due.due("least()", x.least(), 12 + 9 + 6 + 5);
        Due.due("for the town", x.shut(0), -1);
        Due.due("for up here", x.shut(1), 0);
        Due.due("for the chain: 6 without the town, 6 without up here", x.shut(2), 0);
        Due.due("for the wire: 40, 28, 32", x.shut(3), 0);
    }

    private static void whoDrew() {
        Due.says("who drew, by what was left, all that fit;");
        WishMeter x = village();
        Due.due("left(1, 0)", x.left(1, 0), 1);
        Due.due("any three of four", x.drew(0), 5);
        Due.due("in all", x.drew(1), 0);
        Due.due("in some", x.drew(2), 15);
        Due.due("left(0, 0)", x.left(0, 0), 2);
        Due.due("the chain or not", x.drew(0), 2);
        Due.due("in all", x.drew(1), 11);
        Due.due("in some", x.drew(2), 15);
    }

    private static void whatAWellIs() {
        Due.says("what a well is, by what it gave, the next hour to look;");
        WishMeter x = village();
        x.note(3, 5, 0, 20, 5, 0);
        Due.due("a wire", x.is(3), 1 << WIRE);
        Due.due("any place", x.look(3), 0);
        x.note(2, 6, 1, 20, 6, 12);
        Due.due("a town or a chain", x.is(2), 1 << TOWN | 1 << CHAIN);
        Due.due("in an even hour, at 1", x.look(2), 1);
        Due.due("of no notes", x.is(0), 63);
    }

    private static void swapsAndInspector() {
        Due.says("swaps both would rather; an inspector and a wire, what rests;");
        WishMeter x = Due.main(19, PLAIN, 10, 2, TOWN, 10, 2, CHAIN, 10, 1);
        Due.due("pairs", x.swaps(-1), 1);
        Due.due("the town and the chain", x.swaps(0), 12);
        x = village();
        Due.due("a wire that gets 4: none rests", x.inspector(3, 0), 0);
        Due.due("a wire that gets none", x.inspector(3, 1), 1);
        Due.due("the town draws, he looks not", x.inspector(0, 0), 4);
    }

    /** By seed 1 the pressures are 2 and 24: 16838 and 5758, by 61 what is left over. */
    private static void noonsAndYears() {
        Due.says("noons by odds; years by a seed;");
        WishMeter x = village();
        x.noons(1, 0, 3);
        Due.due("above", x.part(0), 14);
        Due.due("below", x.part(1), 5);
        Due.due("a day at 2", x.years(1, 1), 8 * 2);
        Due.due("one at 24, too", x.years(1, 2), 8 * 2 + 8 * 24);
    }

    private static void text() {
        Due.says("a main told by a text;");
        WishMeter x = new WishMeter();
        Due.type(x, "main20;well1 12 0 1 2 3 4 5 6 7;well2 9 0 1 2 3 4 5 6 7;well4 6 0 1 2 3 4 5 6 7;"
            + "well3 5 0 1 2 3 4 5 6 7;");
        Due.due("read()", x.read(), 5);
        x.clear();
        Due.due("it is the village", x.digest(), village().digest());
    }

    private static void imagesAndRefused() {
        Due.says("images, and what was refused, by reason.");
        WishMeter x = village();
        x.image(1);
        x.board(3);
        Due.due("from(1)", x.from(1), 1);
        Due.due("it is the village", x.digest(), village().digest());
        x.press(61);
        x.of(4, 0);
        x.undo();
        for (int k = 0; k < 5; k++) x.left(k, k);
        Due.status(x, 2, 1, 1);
    }
}
