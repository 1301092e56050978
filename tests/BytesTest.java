/** Each byte put, left out, put for another at each place of some texts: read as the oracle reads it. */
public final class BytesTest {
    private static final String[] TEXTS = {
        "main 60;well 5 20 0 7;turn 0;day;",
        " main07 ; well 0 1;day ;turn 0 1 02 ; ",
        "main9;well0 1;well0 1;well0 1;well0 1;well0 1;day;"};

    private static WishMeter x = new WishMeter();
    private static int typed = 0;

    public static void main(String[] args) {
        for (String text : TEXTS) {
            for (int at = 0; at <= text.length(); at++) {
                String ahead = text.substring(0, at);
                readsAlike(ahead);
                if (at < text.length()) readsAlike(ahead + text.substring(at + 1));
                for (char c = 0; c < 128; c++) {
                    readsAlike(ahead + c + text.substring(at));
                    if (at < text.length()) readsAlike(ahead + c + text.substring(at + 1));
                }
            }
        }
        Due.end();
    }

    /** One object reads some texts, so that what one leaves behind would spoil the next; no more than 512 calls. */
    private static void readsAlike(String text) {
        if (typed + text.length() + 3 > Counted.MOST_CALLS) {
            x = new WishMeter();
            typed = 0;
        }
        typed += text.length() + 3;
        Oracle oracle = new Oracle();
        for (int k = 0; k < text.length(); k++) oracle.type(text.charAt(k));
        Due.type(x, text);
        long got = x.read();
        long want = oracle.read();
        Due.due("read() of " + text, got, want);
        if (want >= 0) Due.due("digest() of " + text, x.digest(), oracle.digest());
    }
}
