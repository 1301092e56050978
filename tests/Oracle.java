import java.math.BigInteger;
import java.util.ArrayDeque;
import java.util.ArrayList;
import java.util.Deque;
import java.util.HashMap;
import java.util.List;
import java.util.Map;
import java.util.regex.Matcher;
import java.util.regex.Pattern;

/** The document told a second time, plainly and slowly: what the class answers is held against this. */
public final class Oracle {
    interface Kind {
        int gets(int q, int h, int p);

        int due(int g);
    }

    static class Plain implements Kind {
        public int gets(int q, int h, int p) {
            return q < p ? q : p;
        }

        public int due(int g) {
            return g;
        }
    }

    static class Town extends Plain {
        public int due(int g) {
            return 2 * super.due(g);
        }
    }

    static class Upper extends Plain {
        public int gets(int q, int h, int p) {
            return p < 10 ? super.gets(q, h, p) / 2 : super.gets(q, h, p);
        }
    }

    static class Wire extends Plain {
        public int due(int g) {
            return 0;
        }
    }

    static class Chain extends Town {
        public int gets(int q, int h, int p) {
            return h % 2 == 1 ? super.gets(q, h, p) : 0;
        }
    }

    static class Running extends Upper {
        public int gets(int q, int h, int p) {
            int twice = 2 * super.gets(q, h, p);
            return twice > p ? p : twice;
        }

        public int due(int g) {
            return g >= 1 ? super.due(g) + 1 : super.due(g);
        }
    }

    private static final Kind[] KINDS = {new Plain(), new Town(), new Upper(), new Wire(), new Chain(), new Running()};

    record Well(int kind, int wanted, int hours, int had, int due) {
    }

    record Past(int pressure, int day, List<Well> wells) {
    }

    record State(int pressure, int day, List<Well> wells, List<int[]> lefts, List<int[]> notes, List<Past> pasts) {
    }

    private State s = fresh(30);
    private final Map<Integer, State> images = new HashMap<>();
    private String text = "";
    private BigInteger above = BigInteger.ZERO;
    private BigInteger below = BigInteger.ONE;
    private final int[] refused = new int[3];

    private static State fresh(int pressure) {
        return new State(pressure, 0, List.of(), List.of(), List.of(), List.of());
    }

    private static boolean out(int x, int low, int high) {
        return x < low || x > high;
    }

    private boolean noWell(int i) {
        return out(i, 0, s.wells.size() - 1);
    }

    private int refuse(int which, int answer) {
        refused[which]++;
        return answer;
    }

    private int bad() {
        return refuse(0, -2);
    }

    private static <T> List<T> with(List<T> list, T one) {
        List<T> more = new ArrayList<>(list);
        more.add(one);
        return more;
    }

    private static List<Well> put(List<Well> wells, int i, Well well) {
        List<Well> other = new ArrayList<>(wells);
        other.set(i, well);
        return other;
    }

    private void tell(int pressure, int day, List<Well> wells) {
        List<Past> pasts = with(s.pasts, new Past(s.pressure, s.day, s.wells));
        if (pasts.size() > 8) pasts = pasts.subList(1, 9);
        s = new State(pressure, day, wells, s.lefts, s.notes, pasts);
    }

    public int board(int pressure) {
        if (out(pressure, 0, 60)) return bad();
        int were = s.wells.size();
        s = fresh(pressure);
        return were;
    }

    public int well(int kind, int wanted, int hours) {
        if (out(kind, 0, 5) || out(wanted, 1, 20) || out(hours, 0, 255)) return bad();
        if (s.wells.size() == 5) return refuse(2, -4);
        List<Well> wells = with(s.wells, new Well(kind, wanted, hours, 0, 0));
        s = new State(s.pressure, s.day, wells, s.lefts, s.notes, List.of());
        return wells.size() - 1;
    }

    public int type(int c) {
        if (out(c, 0, 127)) return bad();
        if (text.length() == 150) return refuse(2, -4);
        text = text + (char) c;
        return text.length();
    }

    public int clear() {
        int had = text.length();
        text = "";
        return had;
    }

    private static final class Fault extends RuntimeException {
        private static final long serialVersionUID = 1;
        final int place;

        Fault(int place) {
            super("fault");
            this.place = place;
        }
    }

    private static final class Tokens {
        final Deque<String> words = new ArrayDeque<>();
        final Deque<Integer> places = new ArrayDeque<>();

        Tokens(String text) {
            Matcher m = Pattern.compile("[a-z]+|[0-9]+|[^ ]", Pattern.DOTALL).matcher(text);
            while (m.find()) {
                words.add(m.group());
                places.add(m.start());
            }
            words.add("");
            places.add(text.length());
        }

        boolean isNext(String form) {
            return words.peek().matches(form);
        }

        String take(boolean stands) {
            if (!stands) throw new Fault(places.peek());
            places.pop();
            return words.pop();
        }

        void word(String word) {
            take(isNext(word));
        }

        boolean numberIsNext(int low, int high) {
            return isNext("[0-9]{1,2}") && !out(Integer.parseInt(words.peek()), low, high);
        }

        int number(int low, int high) {
            return Integer.parseInt(take(numberIsNext(low, high)));
        }

        int hours() {
            int hours = 0;
            while (numberIsNext(0, 7)) hours |= 1 << number(0, 7);
            return hours;
        }
    }

    public int read() {
        Oracle draft = new Oracle();
        int items = 1;
        try {
            Tokens t = new Tokens(text);
            t.word("main");
            draft.board(t.number(0, 60));
            t.word(";");
            while (!t.isNext("")) {
                draft.item(t);
                items++;
            }
        } catch (Fault f) {
            return -10 - f.place;
        }
        State d = draft.s;
        s = new State(d.pressure, d.day, d.wells, List.of(), List.of(), List.of());
        return items;
    }

    private void item(Tokens t) {
        if (t.isNext("well") && s.wells.size() < 5) {
            t.word("well");
            int kind = t.number(0, 5);
            int wanted = t.number(1, 20);
            int hours = t.hours();
            t.word(";");
            well(kind, wanted, hours);
        } else if (t.isNext("turn")) {
            t.word("turn");
            int i = t.number(0, s.wells.size() - 1);
            int hours = t.hours();
            t.word(";");
            turn(i, hours);
        } else {
            t.word("day");
            t.word(";");
            day(1);
        }
    }

    /** By hours: what each gets, with what is left behind all as the last. */
    private static int[] run(List<Well> wells, int h, int pressure) {
        int[] row = new int[wells.size() + 1];
        int p = pressure;
        for (int i = 0; i < wells.size(); i++) {
            Well w = wells.get(i);
            if ((w.hours & 1 << h) != 0) row[i] = KINDS[w.kind].gets(w.wanted, h, p);
            p -= row[i];
        }
        row[wells.size()] = p;
        return row;
    }

    private static int dayOf(List<Well> wells, int pressure, int i, boolean due) {
        int sum = 0;
        for (int h = 0; h < 8; h++) {
            int g = run(wells, h, pressure)[i];
            sum += due ? KINDS[wells.get(i).kind].due(g) : g;
        }
        return sum;
    }

    private static int dayOfAll(List<Well> wells, int pressure, boolean due) {
        int sum = 0;
        for (int i = 0; i < wells.size(); i++) sum += dayOf(wells, pressure, i, due);
        return sum;
    }

    public int day(int n) {
        if (out(n, 1, 30)) return bad();
        int days = Math.min(n, 999 - s.day);
        List<Well> wells = new ArrayList<>();
        for (int i = 0; i < s.wells.size(); i++) {
            Well w = s.wells.get(i);
            wells.add(new Well(w.kind, w.wanted, w.hours, w.had + days * dayOf(s.wells, s.pressure, i, false),
                w.due + days * dayOf(s.wells, s.pressure, i, true)));
        }
        int all = days * dayOfAll(s.wells, s.pressure, false);
        tell(s.pressure, s.day + days, wells);
        return all;
    }

    private static List<Well> turned(List<Well> wells, int i, int hours) {
        Well w = wells.get(i);
        return put(wells, i, new Well(w.kind, w.wanted, hours, w.had, w.due));
    }

    public int turn(int i, int hours) {
        if (noWell(i) || out(hours, 0, 255)) return bad();
        int were = s.wells.get(i).hours;
        tell(s.pressure, s.day, turned(s.wells, i, hours));
        return were;
    }

    public int want(int i, int q) {
        if (noWell(i) || out(q, 1, 20)) return bad();
        Well w = s.wells.get(i);
        tell(s.pressure, s.day, put(s.wells, i, new Well(w.kind, q, w.hours, w.had, w.due)));
        return w.wanted;
    }

    public int press(int pressure) {
        if (out(pressure, 0, 60)) return bad();
        int was = s.pressure;
        tell(pressure, s.day, s.wells);
        return was;
    }

    public int undo() {
        if (s.pasts.isEmpty()) return refuse(1, -3);
        int last = s.pasts.size() - 1;
        Past p = s.pasts.get(last);
        s = new State(p.pressure, p.day, p.wells, s.lefts, s.notes, s.pasts.subList(0, last));
        return s.day;
    }

    public int of(int i, int what) {
        if (noWell(i) || out(what, 0, 4)) return bad();
        Well w = s.wells.get(i);
        return new int[] {w.kind, w.wanted, w.hours, w.had, w.due}[what];
    }

    public int hour(int i, int h, int what) {
        if (noWell(i) || out(h, 0, 7) || out(what, 0, 2)) return bad();
        int[] row = run(s.wells, h, s.pressure);
        if (what == 0) return row[i];
        if (what == 2) return row[row.length - 1];
        return run(s.wells.subList(0, i), h, s.pressure)[i];
    }

    public int daily(int i, int what) {
        if (i != -1 && noWell(i) || out(what, 0, 1)) return bad();
        if (i == -1) return dayOfAll(s.wells, s.pressure, what == 1);
        return dayOf(s.wells, s.pressure, i, what == 1);
    }

    /** Every way is tried: how much and the hours of the first best, or null. */
    private int[] bestWay(boolean fair) {
        int n = s.wells.size();
        int[] best = null;
        for (int code = 0; code < 1 << 3 * n; code++) {
            List<Well> wells = new ArrayList<>();
            int[] way = new int[n + 1];
            for (int i = 0; i < n; i++) {
                Well w = s.wells.get(i);
                way[i] = code >> 3 * (n - 1 - i) & 7;
                wells.add(new Well(w.kind, w.wanted, 1 << way[i], 0, 0));
            }
            if (fair && !isFair(wells)) continue;
            way[n] = dayOfAll(wells, s.pressure, fair);
            if (best == null || (fair ? way[n] < best[n] : way[n] > best[n])) best = way;
        }
        return best;
    }

    private boolean isFair(List<Well> wells) {
        for (int i = 0; i < wells.size(); i++) {
            int best = 0;
            for (int h = 0; h < 8; h++) {
                best = Math.max(best, dayOf(turned(wells.subList(i, i + 1), 0, 1 << h), s.pressure, 0, false));
            }
            if (dayOf(wells, s.pressure, i, false) != best) return false;
        }
        return true;
    }

    public int turns(int i) {
        if (i != -1 && noWell(i)) return refuse(0, -10);
        return bestWay(false)[i == -1 ? s.wells.size() : i];
    }

    public int fair(int i) {
        if (i != -1 && noWell(i)) return refuse(0, -10);
        int[] best = bestWay(true);
        return best == null ? -1 : best[i == -1 ? s.wells.size() : i];
    }

    public int least() {
        for (int p = 0; p < 100; p++) {
            boolean all = true;
            for (int h = 0; h < 8; h++) {
                int[] row = run(s.wells, h, p);
                int[] ample = run(s.wells, h, 300);
                for (int i = 0; i < s.wells.size(); i++) all &= row[i] == ample[i];
            }
            if (all) return p;
        }
        return -1;
    }

    public int shut(int i) {
        if (noWell(i)) return bad();
        int best = -1;
        int most = dayOf(s.wells, s.pressure, i, false);
        for (int j = 0; j < s.wells.size(); j++) {
            if (j == i) continue;
            int gets = dayOf(turned(s.wells, j, 0), s.pressure, i, false);
            if (gets > most) best = j;
            most = Math.max(most, gets);
        }
        return best;
    }

    public int left(int h, int x) {
        if (out(h, 0, 7) || out(x, 0, 60)) return bad();
        if (s.lefts.size() == 4) return refuse(2, -4);
        s = new State(s.pressure, s.day, s.wells, with(s.lefts, new int[] {h, x}), s.notes, s.pasts);
        return s.lefts.size();
    }

    public int drew(int what) {
        if (out(what, 0, 2)) return bad();
        List<Integer> sets = new ArrayList<>();
        for (int set = 0; set < 1 << s.wells.size(); set++) {
            List<Well> wells = s.wells;
            for (int i = 0; i < wells.size(); i++) wells = turned(wells, i, (set & 1 << i) != 0 ? 255 : 0);
            boolean all = true;
            for (int[] l : s.lefts) all &= run(wells, l[0], s.pressure)[wells.size()] == l[1];
            if (all) sets.add(set);
        }
        if (what == 0) return sets.size();
        if (what == 1) return sets.stream().reduce((a, b) -> a & b).orElse(-1);
        return sets.stream().reduce((a, b) -> a | b).orElse(0);
    }

    public int note(int i, int q, int h, int p, int g, int d) {
        if (noWell(i) || out(q, 1, 20) || out(h, 0, 7) || out(p, 0, 60) || out(g, 0, 40) || out(d, 0, 80)) return bad();
        if (s.notes.size() == 6) return refuse(2, -4);
        s = new State(s.pressure, s.day, s.wells, s.lefts, with(s.notes, new int[] {i, q, h, p, g, d}), s.pasts);
        return s.notes.size();
    }

    public int forget(int what) {
        if (out(what, 0, 1)) return bad();
        int were = what == 0 ? s.lefts.size() : s.notes.size();
        s = new State(s.pressure, s.day, s.wells, what == 0 ? List.of() : s.lefts,
            what == 1 ? List.of() : s.notes, s.pasts);
        return were;
    }

    private List<Integer> kindsOf(int i) {
        List<Integer> kinds = new ArrayList<>();
        for (int k = 0; k < 6; k++) {
            boolean all = true;
            for (int[] n : s.notes) {
                if (n[0] == i) all &= KINDS[k].gets(n[1], n[2], n[3]) == n[4] && KINDS[k].due(n[4]) == n[5];
            }
            if (all) kinds.add(k);
        }
        return kinds;
    }

    public int is(int i) {
        if (noWell(i)) return bad();
        int bits = 0;
        for (int k : kindsOf(i)) bits |= 1 << k;
        return bits;
    }

    public int look(int i) {
        if (noWell(i)) return bad();
        List<Integer> kinds = kindsOf(i);
        int best = -1;
        int fewest = 7;
        for (int place = 0; place <= 130 && !kinds.isEmpty(); place++) {
            if (place > 30 && place < 100) continue;
            Map<String, Integer> alike = new HashMap<>();
            for (int k : kinds) {
                int g = KINDS[k].gets(s.wells.get(i).wanted, place / 100, place % 100);
                alike.merge(g + " " + KINDS[k].due(g), 1, Integer::sum);
            }
            int most = alike.values().stream().max(Integer::compare).get();
            if (most < fewest) best = place;
            fewest = Math.min(fewest, most);
        }
        return best;
    }

    public int swaps(int k) {
        if (k < -1) return refuse(0, -10);
        List<Integer> pairs = new ArrayList<>();
        for (int pair = 0; pair < 50; pair++) {
            int i = pair / 10;
            int j = pair % 10;
            if (i >= j || noWell(i) || noWell(j)) continue;
            List<Well> other = turned(turned(s.wells, i, s.wells.get(j).hours), j, s.wells.get(i).hours);
            if (dayOf(other, s.pressure, i, false) <= dayOf(s.wells, s.pressure, i, false)) continue;
            if (dayOf(other, s.pressure, j, false) > dayOf(s.wells, s.pressure, j, false)) pairs.add(pair);
        }
        if (k == -1) return pairs.size();
        return k < pairs.size() ? pairs.get(k) : -5;
    }

    public int inspector(int i, int h) {
        if (noWell(i) || out(h, 0, 7)) return bad();
        Well w = s.wells.get(i);
        if ((w.hours & 1 << h) == 0) return refuse(1, -3);
        int g = run(s.wells, h, s.pressure)[i];
        boolean wire = w.kind == 3;
        int[] well = {0, 0, g, wire ? g - 20 : g};
        int[] him = {0, -1, 0, wire ? 5 : -1};
        int bits = 0;
        for (int pair = 0; pair < 4; pair++) {
            if (well[pair] >= well[pair ^ 2] && him[pair] >= him[pair ^ 1]) bits += 1 << pair;
        }
        return bits;
    }

    public int noons(int i, int h, int c) {
        if (noWell(i) || out(h, 0, 7) || out(c, 0, 10)) return bad();
        int tenfold = c * run(s.wells, h, s.pressure / 2)[i] + (10 - c) * run(s.wells, h, s.pressure)[i];
        BigInteger top = BigInteger.valueOf(tenfold);
        BigInteger common = top.gcd(BigInteger.TEN);
        above = top.divide(common);
        below = BigInteger.TEN.divide(common);
        return 1;
    }

    public int years(int seed, int n) {
        if (out(seed, 0, 999999) || out(n, 0, 60)) return bad();
        BigInteger x = BigInteger.valueOf(seed);
        int sum = 0;
        for (int k = 0; k < n; k++) {
            x = x.multiply(BigInteger.valueOf(1103515245)).add(BigInteger.valueOf(12345)).mod(BigInteger.ONE.shiftLeft(31));
            sum += dayOfAll(s.wells, x.shiftRight(16).mod(BigInteger.valueOf(61)).intValue(), false);
        }
        return sum;
    }

    public long part(int what) {
        if (out(what, 0, 1)) return bad();
        return (what == 0 ? above : below).longValue();
    }

    public int image(int i) {
        if (out(i, 0, 1)) return bad();
        images.put(i, s);
        return 1;
    }

    public int from(int i) {
        if (out(i, 0, 1)) return bad();
        if (!images.containsKey(i)) return refuse(1, -3);
        s = images.get(i);
        return 1;
    }

    public int status(int what) {
        return out(what, 0, 2) ? refuse(0, -1) : refused[what];
    }

    public int count(int what) {
        if (out(what, 0, 8)) return bad();
        int had = 0;
        int due = 0;
        for (Well w : s.wells) {
            had += w.had;
            due += w.due;
        }
        return new int[] {s.wells.size(), s.pressure, s.day, had, due, s.lefts.size(), s.notes.size(),
            s.pasts.size(), text.length()}[what];
    }

    public long digest() {
        List<Long> values = new ArrayList<>();
        for (int what = 0; what < 9; what++) values.add((long) count(what));
        for (int i = 0; i < s.wells.size(); i++) {
            for (int what = 0; what < 5; what++) values.add((long) of(i, what));
        }
        for (int[] l : s.lefts) for (int v : l) values.add((long) v);
        for (int[] n : s.notes) for (int v : n) values.add((long) v);
        values.add(part(0));
        values.add(part(1));
        long h = 1439;
        for (long v : values) h = 31 * h + v;
        return h;
    }
}
