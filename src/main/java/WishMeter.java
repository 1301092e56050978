/** Metered wishing wells along one main: what each gets, when, and what is due. */
public final class WishMeter {
    public static final int NONE = -1, BAD = -2, NO = -3, FULL = -4;

    private static final int HOURS = 8, ALL_HOURS = 255;
    private static final int FIRST_PRESSURE = 30, MOST_PRESSURE = 60, LEAST_BOUND = 99;
    private static final int AMPLE_PRESSURE = 300, SCANT_PRESSURE = 10;
    private static final int MOST_WELLS = 5, MOST_WANTED = 20, LAST_DAY = 999, MOST_DAYS = 30;
    private static final int MOST_LEFTS = 4, MOST_NOTES = 6, NOTE_SIZE = 6, MOST_GOT = 40, MOST_DUE = 80;
    private static final int MOST_UNDOS = 8, UNDO_SIZE = 2 + 4 * MOST_WELLS;
    private static final int MOST_BYTES = 150, IMAGES = 2;
    private static final int TOWN = 1, UPPER = 2, WIRE = 3, CHAIN = 4, RUNNING = 5, KINDS = 6;
    private static final int LOOK_HOURS = 2, LOOK_PRESSURE = 30;
    private static final int NOT_SO_MANY = -5, BAD_HERE = -10, FAULT_BASE = -10, NO_STATUS = -1;

    private final Pipe now = new Pipe();
    private final Pipe[] images = new Pipe[IMAGES];
    private final Search search = new Search();
    private final Reader reader = new Reader();
    private int above = 0;
    private int below = 1;
    private int bads = 0;
    private int nos = 0;
    private int fulls = 0;

    public WishMeter() {
    }

    // ---- a main

    public int board(int pressure) {
        if (!isPressure(pressure)) return bad();
        int were = now.wells;
        now.restart(pressure);
        return were;
    }

    public int well(int kind, int wanted, int hours) {
        if (!within(kind, 0, KINDS - 1) || !isWanted(wanted) || !within(hours, 0, ALL_HOURS)) return bad();
        if (now.wells >= MOST_WELLS) return full();
        return now.addWell(kind, wanted, hours);
    }

    public int type(int c) {
        if (!within(c, 0, 127)) return bad();
        if (reader.length >= MOST_BYTES) return full();
        return reader.add(c);
    }

    public int clear() {
        int had = reader.length;
        reader.length = 0;
        return had;
    }

    public int read() {
        int items = reader.parse();
        if (items == NONE) return FAULT_BASE - reader.start;
        now.copyFrom(reader.draft);
        return items;
    }

    // ---- days

    public int day(int n) {
        if (!within(n, 1, MOST_DAYS)) return bad();
        now.remember();
        int sum = 0;
        for (int k = 0; k < n; k++) sum += now.passDay();
        return sum;
    }

    public int turn(int i, int hours) {
        if (!now.has(i) || !within(hours, 0, ALL_HOURS)) return bad();
        now.remember();
        int were = now.hours[i];
        now.hours[i] = hours;
        return were;
    }

    public int want(int i, int q) {
        if (!now.has(i) || !isWanted(q)) return bad();
        now.remember();
        int was = now.wanted[i];
        now.wanted[i] = q;
        return was;
    }

    public int press(int pressure) {
        if (!isPressure(pressure)) return bad();
        now.remember();
        int was = now.pressure;
        now.pressure = pressure;
        return was;
    }

    public int undo() {
        if (now.undos == 0) return no();
        now.goBack();
        return now.day;
    }

    public int of(int i, int what) {
        if (!now.has(i)) return bad();
        switch (what) {
            case 0: return now.kind[i];
            case 1: return now.wanted[i];
            case 2: return now.hours[i];
            case 3: return now.had[i];
            case 4: return now.due[i];
            default: return bad();
        }
    }

    // ---- what each gets

    public int hour(int i, int h, int what) {
        if (!now.has(i) || !isHour(h) || !within(what, 0, 2)) return bad();
        now.runHour(h, now.openIn(h), now.pressure);
        if (what == 0) return now.gets[i];
        return what == 1 ? now.ahead[i] : now.leftOver;
    }

    public int daily(int i, int what) {
        if (i != NONE && !now.has(i) || !within(what, 0, 1)) return bad();
        if (i != NONE) return dailyOfOne(i, what);
        int sum = 0;
        for (int k = 0; k < now.wells; k++) sum += dailyOfOne(k, what);
        return sum;
    }

    public int turns(int i) {
        if (i != NONE && !now.has(i)) return badHere();
        search.mostHad(now);
        return i == NONE ? search.bestWorth : search.bestWay[i];
    }

    public int fair(int i) {
        if (i != NONE && !now.has(i)) return badHere();
        search.leastDue(now);
        if (!search.found) return NONE;
        return i == NONE ? -search.bestWorth : search.bestWay[i];
    }

    public int least() {
        for (int p = 0; p <= LEAST_BOUND; p++) {
            if (isAmple(p)) return p;
        }
        return NONE;
    }

    public int shut(int i) {
        if (!now.has(i)) return bad();
        int most = now.dailyGets(i, now.everyWell());
        int best = NONE;
        for (int j = 0; j < now.wells; j++) {
            if (j == i) continue;
            int gets = now.dailyGets(i, now.everyWell() & ~(1 << j));
            if (gets > most) {
                most = gets;
                best = j;
            }
        }
        return best;
    }

    // ---- who drew

    public int left(int h, int x) {
        if (!isHour(h) || !isPressure(x)) return bad();
        if (now.lefts >= MOST_LEFTS) return full();
        return now.addLeft(h, x);
    }

    public int drew(int what) {
        if (!within(what, 0, 2)) return bad();
        int sets = 0;
        int inAll = now.everyWell();
        int inSome = 0;
        for (int open = 0; open <= now.everyWell(); open++) {
            if (!fitsLefts(open)) continue;
            sets++;
            inAll &= open;
            inSome |= open;
        }
        if (what == 0) return sets;
        if (what == 2) return inSome;
        return sets == 0 ? NONE : inAll;
    }

    public int note(int i, int q, int h, int p, int g, int d) {
        if (!now.has(i) || !isWanted(q) || !isHour(h) || !isPressure(p)) return bad();
        if (!within(g, 0, MOST_GOT) || !within(d, 0, MOST_DUE)) return bad();
        if (now.notes >= MOST_NOTES) return full();
        return now.addNote(i, q, h, p, g, d);
    }

    public int forget(int what) {
        if (!within(what, 0, 1)) return bad();
        int were = what == 0 ? now.lefts : now.notes;
        if (what == 0) now.lefts = 0;
        else now.notes = 0;
        return were;
    }

    public int is(int i) {
        if (!now.has(i)) return bad();
        return kindsOf(i);
    }

    public int look(int i) {
        if (!now.has(i)) return bad();
        int kinds = kindsOf(i);
        if (kinds == 0) return NONE;
        int fewest = KINDS + 1;
        int best = NONE;
        for (int h = 0; h < LOOK_HOURS; h++) {
            for (int p = 0; p <= LOOK_PRESSURE; p++) {
                int most = mostAlike(kinds, now.wanted[i], h, p);
                if (most < fewest) {
                    fewest = most;
                    best = 100 * h + p;
                }
            }
        }
        return best;
    }

    public int swaps(int k) {
        if (k < NONE) return badHere();
        int pairs = 0;
        for (int i = 0; i < now.wells; i++) {
            for (int j = i + 1; j < now.wells; j++) {
                if (!bothWouldSwap(i, j)) continue;
                if (pairs == k) return 10 * i + j;
                pairs++;
            }
        }
        return k == NONE ? pairs : NOT_SO_MANY;
    }

    public int inspector(int i, int h) {
        if (!now.has(i) || !isHour(h)) return bad();
        if (!now.isOpen(i, h)) return no();
        int gets = now.getsAt(i, h, now.pressure);
        boolean wire = now.kind[i] == WIRE;
        int resting = 0;
        for (int pair = 0; pair < 4; pair++) {
            if (rests((pair & 1) == 1, (pair & 2) == 2, gets, wire)) resting |= 1 << pair;
        }
        return resting;
    }

    public int noons(int i, int h, int c) {
        if (!now.has(i) || !isHour(h) || !within(c, 0, 10)) return bad();
        int atHalf = now.getsAt(i, h, now.pressure / 2);
        int atWhole = now.getsAt(i, h, now.pressure);
        setFraction(c * atHalf + (10 - c) * atWhole, 10);
        return 1;
    }

    public int years(int seed, int n) {
        if (!within(seed, 0, 999999) || !within(n, 0, 60)) return bad();
        long x = seed;
        int sum = 0;
        for (int k = 0; k < n; k++) {
            x = (x * 1103515245L + 12345L) % 2147483648L;
            sum += now.dailyOfAll((int) (x / 65536L % 61L));
        }
        return sum;
    }

    // ---- what there is

    public long part(int what) {
        if (!within(what, 0, 1)) return bad();
        return what == 0 ? above : below;
    }

    public int image(int i) {
        if (!within(i, 0, IMAGES - 1)) return bad();
        if (images[i] == null) images[i] = new Pipe();
        images[i].copyFrom(now);
        return 1;
    }

    public int from(int i) {
        if (!within(i, 0, IMAGES - 1)) return bad();
        if (images[i] == null) return no();
        now.copyFrom(images[i]);
        return 1;
    }

    public int status(int what) {
        switch (what) {
            case 0: return bads;
            case 1: return nos;
            case 2: return fulls;
            default:
                bads++;
                return NO_STATUS;
        }
    }

    public int count(int what) {
        if (!within(what, 0, 8)) return bad();
        return howMany(what);
    }

    public long digest() {
        long h = 1439;
        for (int what = 0; what <= 8; what++) h = 31 * h + howMany(what);
        for (int i = 0; i < now.wells; i++) {
            h = 31 * h + now.kind[i];
            h = 31 * h + now.wanted[i];
            h = 31 * h + now.hours[i];
            h = 31 * h + now.had[i];
            h = 31 * h + now.due[i];
        }
        for (int k = 0; k < now.lefts; k++) {
            h = 31 * h + now.leftHour[k];
            h = 31 * h + now.leftPressure[k];
        }
        for (int k = 0; k < now.notes * NOTE_SIZE; k++) h = 31 * h + now.note[k];
        h = 31 * h + above;
        return 31 * h + below;
    }

    // ---- what the calls share

    private static boolean within(int x, int low, int high) {
        return x >= low && x <= high;
    }

    private static boolean isHour(int h) {
        return within(h, 0, HOURS - 1);
    }

    private static boolean isPressure(int p) {
        return within(p, 0, MOST_PRESSURE);
    }

    private static boolean isWanted(int q) {
        return within(q, 1, MOST_WANTED);
    }

    private int bad() {
        bads++;
        return BAD;
    }

    /** BAD where the document has -10 for it. */
    private int badHere() {
        bads++;
        return BAD_HERE;
    }

    private int no() {
        nos++;
        return NO;
    }

    private int full() {
        fulls++;
        return FULL;
    }

    private int dailyOfOne(int i, int what) {
        return what == 0 ? now.dailyGets(i, now.everyWell()) : now.dailyDue(i);
    }

    private boolean isAmple(int p) {
        for (int h = 0; h < HOURS; h++) {
            for (int i = 0; i < now.wells; i++) {
                if (now.getsAt(i, h, p) < now.getsAt(i, h, AMPLE_PRESSURE)) return false;
            }
        }
        return true;
    }

    private boolean fitsLefts(int open) {
        for (int k = 0; k < now.lefts; k++) {
            now.runHour(now.leftHour[k], open, now.pressure);
            if (now.leftOver != now.leftPressure[k]) return false;
        }
        return true;
    }

    private int kindsOf(int i) {
        int kinds = 0;
        for (int k = 0; k < KINDS; k++) {
            if (fitsNotes(k, i)) kinds |= 1 << k;
        }
        return kinds;
    }

    private boolean fitsNotes(int kind, int i) {
        for (int k = 0; k < now.notes; k++) {
            if (now.note[k * NOTE_SIZE] == i && !fitsNote(kind, k * NOTE_SIZE)) return false;
        }
        return true;
    }

    private boolean fitsNote(int kind, int at) {
        int gets = Kinds.gets(kind, now.note[at + 1], now.note[at + 2], now.note[at + 3]);
        return gets == now.note[at + 4] && Kinds.due(kind, gets) == now.note[at + 5];
    }

    /** Of the kinds (bits), how many the largest lot has that a look in hour h at p can't tell apart. */
    private static int mostAlike(int kinds, int q, int h, int p) {
        int most = 0;
        for (int k = 0; k < KINDS; k++) {
            int alike = 0;
            for (int j = 0; j < KINDS; j++) {
                if ((kinds >> k & kinds >> j & 1) == 1 && areAlike(k, j, q, h, p)) alike++;
            }
            most = Math.max(most, alike);
        }
        return most;
    }

    private static boolean areAlike(int one, int other, int q, int h, int p) {
        int gets = Kinds.gets(one, q, h, p);
        int otherGets = Kinds.gets(other, q, h, p);
        return gets == otherGets && Kinds.due(one, gets) == Kinds.due(other, otherGets);
    }

    private boolean bothWouldSwap(int i, int j) {
        int every = now.everyWell();
        int had = now.dailyGets(i, every);
        int otherHad = now.dailyGets(j, every);
        now.swapHours(i, j);
        boolean both = now.dailyGets(i, every) > had && now.dailyGets(j, every) > otherHad;
        now.swapHours(i, j);
        return both;
    }

    private static boolean rests(boolean looks, boolean draws, int gets, boolean wire) {
        return toWell(looks, draws, gets, wire) >= toWell(looks, !draws, gets, wire)
            && toInspector(looks, draws, wire) >= toInspector(!looks, draws, wire);
    }

    private static int toWell(boolean looks, boolean draws, int gets, boolean wire) {
        if (!draws) return 0;
        return looks && wire ? gets - 20 : gets;
    }

    private static int toInspector(boolean looks, boolean draws, boolean wire) {
        if (!looks) return 0;
        return draws && wire ? 5 : -1;
    }

    private void setFraction(int top, int bottom) {
        int divisor = commonDivisor(top, bottom);
        if (divisor == 0) return;
        above = top / divisor;
        below = bottom / divisor;
    }

    private static int commonDivisor(int a, int b) {
        int x = a;
        int y = b;
        for (int k = 0; k < 100 && y != 0; k++) {
            int rest = x % y;
            x = y;
            y = rest;
        }
        return x;
    }

    private int howMany(int what) {
        switch (what) {
            case 0: return now.wells;
            case 1: return now.pressure;
            case 2: return now.day;
            case 3: return now.sumOf(now.had);
            case 4: return now.sumOf(now.due);
            case 5: return now.lefts;
            case 6: return now.notes;
            case 7: return now.undos;
            default: return reader.length;
        }
    }

    /** What the kinds of wells get, and what is due for it. */
    private static final class Kinds {

        static int gets(int kind, int q, int h, int p) {
            int plain = Math.min(q, p);
            int upper = p < SCANT_PRESSURE ? plain / 2 : plain;
            switch (kind) {
                case UPPER: return upper;
                case CHAIN: return (h & 1) == 1 ? plain : 0;
                case RUNNING: return Math.min(2 * upper, p);
                default: return plain;
            }
        }

        static int due(int kind, int g) {
            switch (kind) {
                case TOWN:
                case CHAIN: return 2 * g;
                case WIRE: return 0;
                case RUNNING: return g >= 1 ? g + 1 : g;
                default: return g;
            }
        }
    }

    /** All that an image keeps: the main, its wells, what was told of them, what may be undone. */
    private static final class Pipe {
        int pressure = FIRST_PRESSURE;
        int day = 0;
        int wells = 0;
        int lefts = 0;
        int notes = 0;
        int undos = 0;
        final int[] kind = new int[MOST_WELLS];
        final int[] wanted = new int[MOST_WELLS];
        final int[] hours = new int[MOST_WELLS];
        final int[] had = new int[MOST_WELLS];
        final int[] due = new int[MOST_WELLS];
        final int[] leftHour = new int[MOST_LEFTS];
        final int[] leftPressure = new int[MOST_LEFTS];
        final int[] note = new int[MOST_NOTES * NOTE_SIZE];
        final int[] past = new int[MOST_UNDOS * UNDO_SIZE];

        /** What the hour that was run last came to; no image needs these. */
        final int[] ahead = new int[MOST_WELLS];
        final int[] gets = new int[MOST_WELLS];
        int leftOver = 0;

        void restart(int p) {
            pressure = p;
            day = 0;
            wells = 0;
            lefts = 0;
            notes = 0;
            undos = 0;
        }

        void copyFrom(Pipe other) {
            pressure = other.pressure;
            day = other.day;
            wells = other.wells;
            lefts = other.lefts;
            notes = other.notes;
            undos = other.undos;
            System.arraycopy(other.kind, 0, kind, 0, MOST_WELLS);
            System.arraycopy(other.wanted, 0, wanted, 0, MOST_WELLS);
            System.arraycopy(other.hours, 0, hours, 0, MOST_WELLS);
            System.arraycopy(other.had, 0, had, 0, MOST_WELLS);
            System.arraycopy(other.due, 0, due, 0, MOST_WELLS);
            System.arraycopy(other.leftHour, 0, leftHour, 0, MOST_LEFTS);
            System.arraycopy(other.leftPressure, 0, leftPressure, 0, MOST_LEFTS);
            System.arraycopy(other.note, 0, note, 0, MOST_NOTES * NOTE_SIZE);
            System.arraycopy(other.past, 0, past, 0, MOST_UNDOS * UNDO_SIZE);
        }

        boolean has(int i) {
            return i >= 0 && i < wells;
        }

        int everyWell() {
            return (1 << wells) - 1;
        }

        int addWell(int itsKind, int q, int open) {
            if (wells >= MOST_WELLS) return FULL;
            kind[wells] = itsKind;
            wanted[wells] = q;
            hours[wells] = open;
            had[wells] = 0;
            due[wells] = 0;
            undos = 0;
            wells++;
            return wells - 1;
        }

        int addLeft(int h, int x) {
            if (lefts >= MOST_LEFTS) return FULL;
            leftHour[lefts] = h;
            leftPressure[lefts] = x;
            lefts++;
            return lefts;
        }

        int addNote(int i, int q, int h, int p, int g, int d) {
            if (notes >= MOST_NOTES) return FULL;
            int at = notes * NOTE_SIZE;
            note[at] = i;
            note[at + 1] = q;
            note[at + 2] = h;
            note[at + 3] = p;
            note[at + 4] = g;
            note[at + 5] = d;
            notes++;
            return notes;
        }

        void remember() {
            if (undos >= MOST_UNDOS) {
                undos = MOST_UNDOS - 1;
                System.arraycopy(past, UNDO_SIZE, past, 0, undos * UNDO_SIZE);
            }
            int at = undos * UNDO_SIZE;
            past[at] = pressure;
            past[at + 1] = day;
            System.arraycopy(wanted, 0, past, at + 2, MOST_WELLS);
            System.arraycopy(hours, 0, past, at + 2 + MOST_WELLS, MOST_WELLS);
            System.arraycopy(had, 0, past, at + 2 + 2 * MOST_WELLS, MOST_WELLS);
            System.arraycopy(due, 0, past, at + 2 + 3 * MOST_WELLS, MOST_WELLS);
            undos++;
        }

        void goBack() {
            if (undos <= 0) return;
            undos--;
            int at = undos * UNDO_SIZE;
            pressure = past[at];
            day = past[at + 1];
            System.arraycopy(past, at + 2, wanted, 0, MOST_WELLS);
            System.arraycopy(past, at + 2 + MOST_WELLS, hours, 0, MOST_WELLS);
            System.arraycopy(past, at + 2 + 2 * MOST_WELLS, had, 0, MOST_WELLS);
            System.arraycopy(past, at + 2 + 3 * MOST_WELLS, due, 0, MOST_WELLS);
        }

        int passDay() {
            if (day >= LAST_DAY) return 0;
            int sum = 0;
            for (int h = 0; h < HOURS; h++) {
                runHour(h, openIn(h), pressure);
                for (int i = 0; i < wells; i++) {
                    had[i] += gets[i];
                    due[i] += Kinds.due(kind[i], gets[i]);
                    sum += gets[i];
                }
            }
            day++;
            return sum;
        }

        boolean isOpen(int i, int h) {
            return (hours[i] >> h & 1) == 1;
        }

        int openIn(int h) {
            int open = 0;
            for (int i = 0; i < wells; i++) {
                if (isOpen(i, h)) open |= 1 << i;
            }
            return open;
        }

        /** Those that are open (bits) may be others than the wells' own hours tell. */
        void runHour(int h, int open, int atMain) {
            leftOver = atMain;
            for (int i = 0; i < wells; i++) {
                ahead[i] = leftOver;
                gets[i] = (open >> i & 1) == 1 ? Kinds.gets(kind[i], wanted[i], h, leftOver) : 0;
                leftOver -= gets[i];
            }
        }

        int getsAt(int i, int h, int atMain) {
            runHour(h, openIn(h), atMain);
            return gets[i];
        }

        /** Wells that are not among those told (bits) are shut all day. */
        int dailyGets(int i, int among) {
            int sum = 0;
            for (int h = 0; h < HOURS; h++) {
                runHour(h, openIn(h) & among, pressure);
                sum += gets[i];
            }
            return sum;
        }

        int dailyDue(int i) {
            int sum = 0;
            for (int h = 0; h < HOURS; h++) sum += Kinds.due(kind[i], getsAt(i, h, pressure));
            return sum;
        }

        /** What all get in an hour is what the main has less what is left behind all. */
        int dailyOfAll(int atMain) {
            int sum = 0;
            for (int h = 0; h < HOURS; h++) {
                runHour(h, openIn(h), atMain);
                sum += atMain - leftOver;
            }
            return sum;
        }

        void swapHours(int i, int j) {
            int open = hours[i];
            hours[i] = hours[j];
            hours[j] = open;
        }

        int sumOf(int[] amounts) {
            int sum = 0;
            for (int i = 0; i < wells && i < amounts.length; i++) sum += amounts[i];
            return sum;
        }
    }

    /** Looks through the ways to open each well in one hour for the first one that is worth most. */
    private static final class Search {
        boolean found = false;
        int bestWorth = 0;
        final int[] bestWay = new int[MOST_WELLS];
        private final int[] way = new int[MOST_WELLS];
        private final int[] rest = new int[HOURS];
        private final int[] mustGet = new int[MOST_WELLS];
        private boolean byDue = false;

        void mostHad(Pipe pipe) {
            byDue = false;
            for (int i = 0; i < pipe.wells; i++) mustGet[i] = 0;
            start(pipe);
        }

        /** What is due counts below 0, so that the least due is worth most. */
        void leastDue(Pipe pipe) {
            byDue = true;
            for (int i = 0; i < pipe.wells; i++) mustGet[i] = bestAlone(pipe, i);
            start(pipe);
        }

        private void start(Pipe pipe) {
            found = false;
            bestWorth = 0;
            for (int h = 0; h < HOURS; h++) rest[h] = pipe.pressure;
            choose(this, pipe, 0, 0);
        }

        private static int bestAlone(Pipe pipe, int i) {
            int most = 0;
            for (int h = 0; h < HOURS; h++) {
                most = Math.max(most, Kinds.gets(pipe.kind[i], pipe.wanted[i], h, pipe.pressure));
            }
            return most;
        }

        /** Static, since only such a method may call itself; no deeper than there are wells. */
        private static void choose(Search s, Pipe pipe, int i, int worth) {
            if (i >= pipe.wells || i >= MOST_WELLS) {
                s.keepIfBetter(worth);
                return;
            }
            for (int h = 0; h < HOURS; h++) {
                int gets = Kinds.gets(pipe.kind[i], pipe.wanted[i], h, s.rest[h]);
                if (gets < s.mustGet[i] || s.isLikeAnEarlierOne(h)) continue;
                s.way[i] = h;
                s.rest[h] -= gets;
                choose(s, pipe, i + 1, s.byDue ? worth - Kinds.due(pipe.kind[i], gets) : worth + gets);
                s.rest[h] += gets;
            }
        }

        /** Such an hour leads to no better way, and to none that comes first: wells ask but whether it is odd. */
        private boolean isLikeAnEarlierOne(int h) {
            for (int k = h - 2; k >= 0; k -= 2) {
                if (rest[k] == rest[h]) return true;
            }
            return false;
        }

        private void keepIfBetter(int worth) {
            if (found && worth <= bestWorth) return;
            found = true;
            bestWorth = worth;
            System.arraycopy(way, 0, bestWay, 0, MOST_WELLS);
        }
    }

    /** Has the text, and reads a main from it into a draft; where it stops, start is the place of the fault. */
    private static final class Reader {
        private static final int END = 0, SEMICOLON = 1, NUMBER = 2, MAIN = 3, WELL = 4, TURN = 5, DAY = 6, OTHER = 7;

        /** Four letters at most, packed into one int. */
        private static final int MAIN_WORD = 'm' << 24 | 'a' << 16 | 'i' << 8 | 'n';
        private static final int WELL_WORD = 'w' << 24 | 'e' << 16 | 'l' << 8 | 'l';
        private static final int TURN_WORD = 't' << 24 | 'u' << 16 | 'r' << 8 | 'n';
        private static final int DAY_WORD = 'd' << 16 | 'a' << 8 | 'y';

        final Pipe draft = new Pipe();
        int start = 0;
        int length = 0;
        private final byte[] text = new byte[MOST_BYTES];
        private int next = 0;
        private int token = END;
        private int value = 0;

        int add(int c) {
            if (length >= MOST_BYTES) return FULL;
            text[length] = (byte) c;
            length++;
            return length;
        }

        /** How many items there are; NONE: a fault. */
        int parse() {
            next = 0;
            draft.restart(FIRST_PRESSURE);
            step();
            if (!mainItem()) return NONE;
            int items = 1;
            while (items <= length && token != END) {
                boolean stands = token == WELL ? wellItem() : token == TURN ? turnItem() : dayItem();
                if (!stands) return NONE;
                items++;
            }
            return items;
        }

        private boolean mainItem() {
            if (token != MAIN) return false;
            step();
            if (!isNumber(0, MOST_PRESSURE)) return false;
            draft.pressure = value;
            step();
            return semicolon();
        }

        private boolean wellItem() {
            if (token != WELL || draft.wells >= MOST_WELLS) return false;
            step();
            if (!isNumber(0, KINDS - 1)) return false;
            int kind = value;
            step();
            if (!isNumber(1, MOST_WANTED)) return false;
            int wanted = value;
            step();
            int hours = readHours();
            if (!semicolon()) return false;
            draft.addWell(kind, wanted, hours);
            return true;
        }

        private boolean turnItem() {
            if (token != TURN) return false;
            step();
            if (!isNumber(0, draft.wells - 1)) return false;
            int i = value;
            step();
            int hours = readHours();
            if (!semicolon()) return false;
            draft.hours[i] = hours;
            return true;
        }

        private boolean dayItem() {
            if (token != DAY) return false;
            step();
            if (!semicolon()) return false;
            draft.passDay();
            return true;
        }

        /** Stops at the first token that is no hour; what follows judges that one. */
        private int readHours() {
            int hours = 0;
            for (int k = 0; k < length && isNumber(0, HOURS - 1); k++) {
                hours |= 1 << value;
                step();
            }
            return hours;
        }

        private boolean semicolon() {
            if (token != SEMICOLON) return false;
            step();
            return true;
        }

        private boolean isNumber(int low, int high) {
            return token == NUMBER && value >= low && value <= high;
        }

        private void step() {
            while (next < length && text[next] == ' ') next++;
            start = next;
            if (next >= length) token = END;
            else if (isLetter(text[next])) takeWord();
            else if (isFigure(text[next])) takeNumber();
            else takeSign();
        }

        private void takeWord() {
            int word = 0;
            while (next < length && isLetter(text[next])) {
                word = word << 8 | text[next];
                next++;
            }
            if (next - start > 4) word = 0;
            switch (word) {
                case MAIN_WORD: token = MAIN; break;
                case WELL_WORD: token = WELL; break;
                case TURN_WORD: token = TURN; break;
                case DAY_WORD: token = DAY; break;
                default: token = OTHER;
            }
        }

        private void takeNumber() {
            value = 0;
            while (next < length && isFigure(text[next])) {
                if (next - start < 2) value = 10 * value + text[next] - '0';
                next++;
            }
            token = next - start <= 2 ? NUMBER : OTHER;
        }

        private void takeSign() {
            token = text[next] == ';' ? SEMICOLON : OTHER;
            next++;
        }

        private static boolean isLetter(int c) {
            return c >= 'a' && c <= 'z';
        }

        private static boolean isFigure(int c) {
            return c >= '0' && c <= '9';
        }
    }
}
