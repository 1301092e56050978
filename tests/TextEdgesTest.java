/** The edges of a text: its length, items, tokens, where a fault lies, what reading takes the place of. */
public final class TextEdgesTest {
    private static final String FIVE = "main9;well0 1;well0 1;well0 1;well0 1;well0 1;";

    public static void main(String[] args) {
        bytes();
        bytesTooEarly();
        endedEach();
        mainFirst();
        mainPressure();
        wellNumbers();
        wellHours();
        turnNumbers();
        turnHours();
        days();
        figures();
        blanks();
        noWord();
        mainAgain();
        aheadOfMain();
        sixthWell();
        threeFigures();
        notAsTold();
        beginsNone();
        firstFault();
        tooEarly();
        takesThePlace();
        nothingElseIsKept();
        Due.end();
    }

    private static void reads(String text, int items) {
        WishMeter x = new WishMeter();
        Due.type(x, text);
        Due.due("read() of " + text, x.read(), items);
    }

    /** Also, all stays. */
    private static void faults(String text, int place) {
        WishMeter x = Due.main(17, 3, 4, 5);
        x.day(1);
        x.left(1, 1);
        x.note(0, 1, 1, 1, 1, 1);
        Due.type(x, text);
        long before = x.digest();
        Due.due("read() of " + text, x.read(), -10 - place);
        Due.due("digest() behind " + text, x.digest(), before);
        Due.due("undo() behind " + text, x.undo(), 0);
    }

    private static void bytes() {
        Due.says("THE MAIN is told by a TEXT (150 bytes at most)");
        String days = "main0;" + "day;".repeat(36);
        Due.due("bytes", days.length(), 150);
        reads(days, 37);
        Due.due("days", Due.read(days).count(2), 36);
        reads(States.FULL_TEXT, 8);
        reads(States.padded(FIVE), 6);
        reads(" ".repeat(143) + "main 5;", 1);
        reads("main 5;" + " ".repeat(143), 1);
        reads("main" + " ".repeat(144) + "5;", 1);
        WishMeter x = Due.read(States.FULL_TEXT);
        Due.due("a 151st", x.type(';'), -4);
        Due.due("reads as it did", x.read(), 8);
        Due.due("the last item of them", x.count(2), 1);
    }

    private static void bytesTooEarly() {
        faults(" ".repeat(150), 150);
        faults("main 5;" + " ".repeat(142) + ";", 149);
        faults("main 5;" + " ".repeat(139) + "main", 146);
        faults("main 5" + " ".repeat(144), 150);
        faults("main 5;day" + " ".repeat(140), 150);
        faults("main 5;" + " ".repeat(140) + "day", 150);
        faults("main 5;" + " ".repeat(139) + "well", 150);
        faults("x" + " ".repeat(149), 0);
        faults(" ".repeat(149) + "x", 149);
        faults("x".repeat(150), 0);
        faults("0".repeat(150), 0);
        faults("main" + "0".repeat(146), 4);
        faults("main" + "n".repeat(146), 0);
        faults(";".repeat(150), 0);
        faults("main 0;" + "day;".repeat(35) + "day", 150);
    }

    private static void endedEach() {
        Due.says("of ITEMS, each ended by ; :");
        reads("main 5;", 1);
        reads("main 5;day;", 2);
        faults("main 5;day", 10);
        faults("main 5;;", 7);
        faults("main 5;day;;", 11);
        faults("main 5 day;", 7);
        faults("main 5;day day;", 11);
        faults("main 5;day well 0 1;", 11);
        faults("main 5;well 0 1 turn 0;", 16);
        faults("main 5;well 0 1;turn 0 day;", 23);
    }

    private static void mainFirst() {
        Due.says("main PRESSURE (once, first of all)");
        reads("main 5;", 1);
        faults("main 5;main 5;", 7);
        faults("main 5;day;main 5;", 11);
        faults("main 5 main 5;", 7);
        faults("main main 5;", 5);
        faults("day;main 5;", 0);
        faults("well 0 1;main 5;", 0);
        faults("turn 0;", 0);
        faults("day;", 0);
    }

    private static void mainPressure() {
        reads("main 0;", 1);
        reads("main 60;", 1);
        Due.due("60", Due.read("main 60;").count(1), 60);
        Due.due("0", Due.read("main 00;").count(1), 0);
        faults("main 61;", 5);
        faults("main 99;", 5);
        faults("main;", 4);
        faults("main day;", 5);
        faults("main -1;", 5);
        faults("main 1 1;", 7);
    }

    private static void wellNumbers() {
        Due.says("well KIND WANTED and HOURS (0 .. 7, any)");
        for (int kind = 0; kind < 6; kind++) {
            WishMeter x = Due.read("main 5;well " + kind + " 1;");
            Due.due("kind", x.of(0, 0), kind);
            Due.due("no hours", x.of(0, 2), 0);
        }
        faults("main 5;well 6 1;", 12);
        faults("main 5;well 99 1;", 12);
        Due.due("1 wanted", Due.read("main 5;well 0 1;").of(0, 1), 1);
        Due.due("20 wanted", Due.read("main 5;well 0 20;").of(0, 1), 20);
        faults("main 5;well 0 0;", 14);
        faults("main 5;well 0 00;", 14);
        faults("main 5;well 0 21;", 14);
        faults("main 5;well;", 11);
        faults("main 5;well 0;", 13);
        faults("main 5;well day;", 12);
        faults("main 5;well 0 day;", 14);
    }

    private static void wellHours() {
        Due.due("one", Due.read("main 5;well 0 1 0;").of(0, 2), 1);
        Due.due("7", Due.read("main 5;well 0 1 7;").of(0, 2), 128);
        Due.due("all", Due.read("main 5;well 0 1 0 1 2 3 4 5 6 7;").of(0, 2), 255);
        Due.due("falling", Due.read("main 5;well 0 1 7 6 5 4 3 2 1 0;").of(0, 2), 255);
        Due.due("twice", Due.read("main 5;well 0 1 3 3 03;").of(0, 2), 8);
        Due.due("all twice", Due.read("main 5;well 0 1 0 1 2 3 4 5 6 7 0 1 2 3 4 5 6 7;").of(0, 2), 255);
        String most = "main5;well0 1" + " 0".repeat(68) + ";";
        Due.due("bytes", most.length(), 150);
        Due.due("as many as there may be", Due.read(most).of(0, 2), 1);
        faults("main 5;well 0 1 8;", 16);
        faults("main 5;well 0 1 7 8;", 18);
        faults("main 5;well 0 1 10;", 16);
        faults("main 5;well 0 1 0 1 2 3 4 5 6 7 8;", 32);
    }

    private static void turnNumbers() {
        Due.says("turn i and HOURS (any; those alone)");
        reads(FIVE + "turn 0;turn 4;", 8);
        faults(FIVE + "turn 5;", 51);
        faults("main 5;turn 0;", 12);
        faults("main 5;well 0 1;turn 1;", 21);
        faults("main 5;well 0 1;turn 1;well 0 1;", 21);
        faults("main 5;turn;", 11);
        faults("main 5;well 0 1;turn;", 20);
        faults("main 5;well 0 1;turn day;", 21);
        reads("main 5;well 0 1;turn 00;", 3);
    }

    private static void turnHours() {
        WishMeter x = Due.read("main 5;well 0 1 0 1 2;well 0 1 0 1 2;well 0 1 0 1 2;turn 0;turn 1 7;turn 2 1 3;");
        Due.due("none", x.of(0, 2), 0);
        Due.due("7 alone", x.of(1, 2), 128);
        Due.due("1 and 3 alone", x.of(2, 2), 10);
        Due.due("all", Due.read("main 5;well 0 1;turn 0 0 1 2 3 4 5 6 7;").of(0, 2), 255);
        Due.due("the last turn", Due.read("main 5;well 0 1 2;turn 0 1;turn 0 3;").of(0, 2), 8);
        Due.due("one twice", Due.read("main 5;well 0 1;turn 0 3 3;").of(0, 2), 8);
        faults("main 5;well 0 1;turn 0 8;", 23);
        faults("main 5;well 0 1;turn 0 7 8;", 25);
    }

    private static void days() {
        Due.says("(any; those alone); day.");
        WishMeter x = Due.read("main 5;day;well 1 3 7;day;turn 0 0 1;day;");
        Due.due("days", x.count(2), 3);
        Due.due("had by what was open then", x.of(0, 3), 3 + 6);
        Due.due("due by what was open then", x.of(0, 4), 6 + 12);
        Due.due("nothing to undo", x.count(7), 0);
        Due.due("an empty main's", Due.read("main 5;day;").count(2), 1);
        faults("main 5;day 1;", 11);
        faults("main 5;day 0;", 11);
    }

    private static void figures() {
        Due.says("words of letters a .. z, figures (1 or 2 are one number), ;");
        Due.due("one figure", Due.read("main 7;").count(1), 7);
        Due.due("two figures", Due.read("main 17;").count(1), 17);
        Due.due("a nought ahead", Due.read("main 07;").count(1), 7);
        Due.due("two noughts", Due.read("main 00;").count(1), 0);
        Due.due("no blank is one number", Due.read("main 5;well 0 12;").of(0, 1), 12);
        Due.due("a blank is two", Due.read("main 5;well 0 1 2;").of(0, 1), 1);
        Due.due("noughts ahead of all", Due.read("main 05;well 05 07 07 00;").of(0, 2), 129);
        faults("main 5;well 12;", 12);
    }

    private static void blanks() {
        Due.says("blanks (32), any number, ahead of, between and behind TOKENS (needed only between two words,"
            + " two numbers)");
        reads("main5;well5 20 7;turn0 7;day;", 4);
        reads("main5;well5 20 7;turn0;day;", 4);
        reads("   main   5   ;   well   5   20   7   ;   turn   0   7   ;   day   ;   ", 4);
        reads(" main 5 ; day ; ", 2);
        faults("main5;well520;", 10);
        faults("main5;well52 1;", 10);
        faults("main5;well5 207;", 12);
        faults("main5;daywell0 1;", 6);
        faults("main5;da y;", 6);
        faults("ma in5;", 0);
        faults("main5;well0 1;turn0 1 ;day ; x", 29);
        faults("main 6 0;", 7);
    }

    private static void noWord() {
        Due.says("(a word that is none, main again, anything ahead of it, a 6th well at its word, a run of three"
            + " figures or more (at its first one), a number not as told, also a WELL that is not there yet, a byte"
            + " that begins none, too)");
        faults("mai", 0);
        faults("mains 5;", 0);
        faults("amain 5;", 0);
        faults("m", 0);
        faults("main 5;d", 7);
        faults("main 5;da", 7);
        faults("main 5;days;", 7);
        faults("main 5;wel", 7);
        faults("main 5;wells 0 1;", 7);
        faults("main 5;tur", 7);
        faults("main 5;turns", 7);
        faults("main 5;niam;", 7);
        faults("main 5;yad;", 7);
        faults("main 5;xday;", 7);
        faults("main 5;mainday;", 7);
        faults("main five;", 5);
        faults("main 5;well 0 1 x;", 16);
        faults("main 5;z", 7);
        faults("main 5x;", 6);
    }

    private static void mainAgain() {
        faults("main 5;main", 7);
        faults(FIVE + "main 5;", 46);
        faults("main 5;well main", 12);
        faults("main 5;well 0 1;turn 0 main 1;", 23);
    }

    private static void aheadOfMain() {
        faults("5 main 5;", 0);
        faults("; main 5;", 0);
        faults(" ; main 5;", 1);
        faults("#main 5;", 0);
        faults("  day;", 2);
        faults("000main 5;", 0);
    }

    private static void sixthWell() {
        reads(FIVE, 6);
        faults(FIVE + "well 0 1;", 46);
        faults(FIVE + "well", 46);
        faults(FIVE + "well 6", 46);
        faults(FIVE + "  well", 48);
        faults(FIVE + "day;well 0 1;", 50);
        reads(FIVE + "day;", 7);
    }

    private static void threeFigures() {
        faults("main 100;", 5);
        faults("main 000;", 5);
        faults("main 005;", 5);
        faults("main 0005;", 5);
        faults("main 5;well 000 1;", 12);
        faults("main 5;well 0 001;", 14);
        faults("main 5;well 0 1 000;", 16);
        faults("main 5;well 0 1 01234567;", 16);
        faults("main 5;well 0 1;turn 000;", 21);
        faults("main 5;day 000;", 11);
        faults("main 4294967301;", 5);
        faults("main 5;well 0 256;", 14);
        faults("main 123", 5);
    }

    private static void notAsTold() {
        faults("main 61;", 5);
        faults("main 5;well 6 0 8;", 12);
        faults("main 5;well 5 0 8;", 14);
        faults("main 5;well 5 1 8;", 16);
        faults("main 5;well 0 1;turn 1 8;", 21);
        faults("main 5;well 0 1;turn 0 8;", 23);
        faults("main 5;5;", 7);
        faults("main 5;well ;", 12);
        faults("main 5;well 0 ;", 14);
        faults("main ;", 5);
        faults("main 61", 5);
    }

    private static void beginsNone() {
        for (char c = 0; c < 128; c++) {
            if (c == ' ' || c == ';' || c >= '0' && c <= '9' || c >= 'a' && c <= 'z') continue;
            faults(c + "main 5;", 0);
            faults("main" + c + "5;", 4);
            faults("main 5" + c + ";", 6);
            faults("main 5;" + c, 7);
            faults("main 5;day;  " + c + " day;", 13);
        }
        faults("main 5;Day;", 7);
        faults("main 5;dAy;", 7);
        faults("MAIN 5;", 0);
    }

    private static void firstFault() {
        Due.says("FAULT: the place of the first byte of the first TOKEN that can not stand there");
        faults("main 61;well 6 0;x#", 5);
        faults("main 5;x main#", 7);
        faults("main 5;#x", 7);
        faults("main 5;day;well 9 99 999;main", 16);
        faults(FIVE + "well 9;main;#", 46);
        faults("   xyz", 3);
        faults("main 5;   dayz;", 10);
    }

    private static void tooEarly() {
        Due.says("the TEXT's length, if it ends too early (an empty one, too).");
        faults("", 0);
        faults(" ", 1);
        String text = "main 12 ; well 5 20 0 7 ; turn 0 3 ; day ;";
        String[] ends = {"main", "main ", "main 1", "main 12", "main 12 ", "main 12 ; well", "main 12 ; well ",
            "main 12 ; well 5", "main 12 ; well 5 20", "main 12 ; well 5 20 ", "main 12 ; well 5 20 0",
            "main 12 ; well 5 20 0 7", "main 12 ; well 5 20 0 7 ", "main 12 ; well 5 20 0 7 ; turn",
            "main 12 ; well 5 20 0 7 ; turn 0", "main 12 ; well 5 20 0 7 ; turn 0 3",
            "main 12 ; well 5 20 0 7 ; turn 0 3 ", "main 12 ; well 5 20 0 7 ; turn 0 3 ; day",
            "main 12 ; well 5 20 0 7 ; turn 0 3 ; day "};
        for (String end : ends) {
            Due.due("a beginning", text.startsWith(end) ? 1 : 0, 1);
            faults(end, end.length());
        }
        reads(text, 4);
    }

    private static void takesThePlace() {
        Due.says("A MAIN that is read takes the place of all but IMAGES, THE TEXT, THE FRACTION, STATUS (LEFT ones,"
            + " NOTES none; nothing to undo).");
        WishMeter x = Due.main(19, 0, 3, 255, 1, 7, 15, 2, 9, 1, 3, 4, 2, 4, 5, 2);
        x.undo();
        x.day(3);
        x.image(0);
        for (int k = 0; k < 4; k++) x.left(k, k);
        for (int k = 0; k < 6; k++) x.note(k % 5, 1, 1, 1, 1, 1);
        for (int k = 0; k < 9; k++) x.press(k);
        x.press(61);
        x.noons(0, 0, 1);
        long above = x.part(0);
        long below = x.part(1);
        Due.type(x, "main 6;well 2 5;");
        Due.due("read()", x.read(), 2);
        Due.due("digest()", x.digest(), Due.digestOf(1, 6, 0, 0, 0, 0, 0, 0, 16, 2, 5, 0, 0, 0, above, below));
        Due.due("nothing to undo", x.undo(), -3);
        Due.status(x, 1, 2, 0);
        Due.due("THE TEXT stays", x.clear(), 16);
        Due.due("the image stays", x.from(0), 1);
        Due.due("its wells", x.count(0), 5);
        Due.due("its undo", x.undo(), 0);
        Due.due("the other image stays none", x.from(1), -3);
    }

    /** The first new one is the first. */
    private static void nothingElseIsKept() {
        WishMeter x = Due.main(19, 0, 3, 255, 1, 7, 15);
        x.day(3);
        x.left(1, 1);
        x.note(1, 1, 1, 1, 1, 1);
        Due.type(x, "main 6;");
        Due.due("read()", x.read(), 1);
        Due.due("count(0)", x.count(0), 0);
        Due.due("count(2)", x.count(2), 0);
        Due.due("of(0, 0)", x.of(0, 0), -2);
        Due.due("well", x.well(3, 9, 1), 0);
        Due.due("had", x.of(0, 3), 0);
        Due.due("due", x.of(0, 4), 0);
        Due.due("is(0)", x.is(0), 63);
        Due.due("left", x.left(1, 1), 1);
        Due.due("note", x.note(0, 1, 1, 1, 1, 1), 1);
        Due.due("press", x.press(7), 6);
        Due.due("count(7)", x.count(7), 1);
    }
}
