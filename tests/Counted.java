import java.util.List;

/** A WishMeter asked by names, and no oftener than the document promises it for. */
final class Counted {
    static final int MOST_CALLS = 512;

    private final WishMeter x = new WishMeter();
    private int spent = 0;

    static Counted by(List<Calls.Call> script) {
        Counted m = new Counted();
        for (Calls.Call c : script) m.ask(c.name(), c.values());
        return m;
    }

    long ask(String name, int... values) {
        if (spent == MOST_CALLS) throw new IllegalStateException("a 513th call: " + name);
        spent++;
        return Calls.ask(x, name, values);
    }

    int rest() {
        return MOST_CALLS - spent;
    }
}
