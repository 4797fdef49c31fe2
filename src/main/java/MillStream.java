import java.util.Arrays;

/**
 * A mill stream: mills one below the other on one water, stepped hour by hour, with rights told as texts.
 *
 * Nothing of an hour is kept: each question steps the water anew from hour 0, so that what is told late
 * (rain, the spring, factors, the law) counts for all hours without any bookkeeping.
 */
public final class MillStream {
    public static final int NONE = -1;

    private static final int NO_SUCH = -1000000;
    private static final int NO_SUCH_PLAN = -2;
    private static final int HOURS = 240;
    private static final int HOURS_OF_DAY = 24;
    private static final int MOST_MILLS = 7;
    private static final int MOST_SPRING = 100;
    private static final int MOST_RAIN = 1000;
    private static final int MOST_WORK = 10000;
    private static final int TOLL_PART = 16;

    // The rows of a stage, numbered as at() asks for them.
    private static final int LEVEL = 0;
    private static final int IN = 1;
    private static final int WHEEL = 2;
    private static final int GATE = 3;
    private static final int HEAD = 4;
    private static final int USED = 5;
    private static final int WORK = 6;
    private static final int THROUGH = 7;
    private static final int SPILL = 8;
    private static final int OUT = 9;
    private static final int ROWS = 10;

    private final Valley valley = new Valley();
    private final Grists grists = new Grists();
    private final Planner planner = new Planner();
    private final Stage now = new Stage();
    private final Stage branch = new Stage();
    private int clock;

    public MillStream() {
        clock = 0;
    }

    public int feed(int a, int b, int c, int d, int e) {
        Tape tape = valley.book.tape;
        if (tape.size + Tape.FEED > Tape.MOST) {
            return NONE;
        }
        tape.append(a);
        tape.append(b);
        tape.append(c);
        tape.append(d);
        tape.append(e);
        return tape.size;
    }

    public int back(int n) {
        Tape tape = valley.book.tape;
        if (n < 0 || n > tape.size) {
            return NONE;
        }
        tape.size -= n;
        return tape.size;
    }

    public int read() {
        Book book = valley.book;
        book.open();
        boolean whole = book.text();
        return book.close(whole);
    }

    public int place() {
        return valley.book.faultPlace;
    }

    public int mill(int cap, int mark, int wheel, int gate) {
        return clock == 0 ? valley.mills.add(cap, mark, wheel, gate) : NONE;
    }

    public boolean spring(int v) {
        if (v < 0 || v > MOST_SPRING) {
            return false;
        }
        valley.mills.spring = v;
        return true;
    }

    public boolean factors(int n) {
        return valley.mills.makeFactors(n);
    }

    public boolean factor(int i, int v) {
        return valley.mills.setFactor(i, v);
    }

    public boolean clock(int h) {
        if (h < clock || h >= HOURS) {
            return false;
        }
        clock = h;
        return true;
    }

    public int rain(int h, int m, int v) {
        if (!isHour(h) || !isMill(m) || v < 0 || v > MOST_RAIN) {
            return NONE;
        }
        return valley.rain.add(h, m, v);
    }

    public int order(int m, boolean gate, int v) {
        if (!isMill(m) || v < 0 || v > valley.mills.mostSetting(m, gate)) {
            return NONE;
        }
        return valley.orders.add(clock, m, gate, v);
    }

    public int grist(int m, int work) {
        if (!isMill(m) || work < 1 || work > MOST_WORK) {
            return NONE;
        }
        return grists.add(clock, m, work);
    }

    public int at(int h, int m, int n, int what) {
        if (!isHour(h) || !isMill(m) || !isKnown(n) || what < 0 || what >= ROWS) {
            return NO_SUCH;
        }
        valley.begin(now, n, NONE);
        valley.run(now, h);
        return now.row[what][m];
    }

    public int sea(int h, int n) {
        if (!isEnd(h) || !isKnown(n)) {
            return NONE;
        }
        int last = valley.mills.size - 1;
        int sum = 0;
        valley.begin(now, n, NONE);
        for (int i = 0; i < h && last >= 0; i++) {
            valley.step(now);
            sum += now.row[OUT][last];
        }
        return sum;
    }

    public int broken(int h, int n, int i) {
        if (!isHour(h) || !isKnown(n) || i < 0) {
            return NONE;
        }
        valley.begin(now, n, NONE);
        valley.run(now, h);
        return valley.breach(now, i);
    }

    public int first(int a, int b, int n) {
        if (!isEnd(a) || !isEnd(b) || !isKnown(n)) {
            return NONE;
        }
        valley.begin(now, n, NONE);
        for (int h = 0; h < b; h++) {
            valley.step(now);
            if (h >= a && valley.breach(now, 0) != NONE) {
                return h;
            }
        }
        return NONE;
    }

    public int loss(int k, int m, int a, int b, int n) {
        if (k < 0 || k >= valley.orders.size || !isMill(m) || !isEnd(a) || !isEnd(b) || !isKnown(n)) {
            return NO_SUCH;
        }
        valley.begin(now, n, NONE);
        valley.begin(branch, n, k);
        return valley.worked(branch, m, a, b) - valley.worked(now, m, a, b);
    }

    public int culprit(int m, int a, int b, int n) {
        if (!isMill(m) || !isEnd(a) || !isEnd(b) || !isKnown(n)) {
            return NONE;
        }
        Orders orders = valley.orders;
        valley.begin(now, n, NONE);
        int most = valley.worked(now, m, a, b);
        int found = NONE;
        int ahead = 0;
        valley.begin(now, n, NONE);
        for (int k = 0; k < orders.size && orders.hour[k] < b; k++) {
            if (orders.mill[k] != m && orders.matters(k)) {
                // Without order k nothing is otherwise ahead of its hour: the branch leaves there.
                ahead += valley.worked(now, m, a, orders.hour[k]);
                branch.copy(now);
                branch.skipped = k;
                int work = ahead + valley.worked(branch, m, a, b);
                if (work > most) {
                    most = work;
                    found = k;
                }
            }
        }
        return found;
    }

    public int plan(int m, int k, int work) {
        if (!isMill(m) || k < 1 || k > Planner.MOST_HOURS || k > HOURS - clock || work < 0 || work > MOST_WORK) {
            return NO_SUCH_PLAN;
        }
        planner.ask(m, k, work, valley.mills);
        valley.begin(now, valley.rain.size, NONE);
        valley.run(now, clock - 1);
        return planner.find(valley, now);
    }

    public int planned(int i) {
        return i < 0 || i >= planner.size ? NONE : planner.wheels[i];
    }

    public int told(int g, int n, int what) {
        if (g < 0 || g >= grists.size || !isKnown(n)) {
            return NONE;
        }
        switch (what) {
            case 0:
                return grists.mill[g];
            case 1:
                return grists.work[g];
            case 2:
                return grists.hour[g];
            case 3:
                grind(grists.mill[g], n, HOURS);
                return grists.finished[g];
            case 4:
                grind(grists.mill[g], n, clock);
                return grists.ground[g];
            default:
                return NONE;
        }
    }

    public int tolls(int m, int h, int n) {
        if (!isMill(m) || !isEnd(h) || !isKnown(n)) {
            return NONE;
        }
        grind(m, n, h);
        return grists.tollsOf(m);
    }

    public int count(int what) {
        switch (what) {
            case 0:
                return valley.mills.size;
            case 1:
                return valley.rain.size;
            case 2:
                return valley.orders.size;
            case 3:
                return grists.size;
            case 4:
                return valley.book.law.acts;
            case 5:
                return valley.book.law.rules;
            case 6:
                return clock;
            case 7:
                return valley.mills.factors;
            case 8:
                return valley.book.tape.size;
            default:
                return NONE;
        }
    }

    private boolean isMill(int m) {
        return m >= 0 && m < valley.mills.size;
    }

    private boolean isHour(int h) {
        return h >= 0 && h < HOURS;
    }

    /** The end of a span of hours, which hour 239 may still be within. */
    private boolean isEnd(int h) {
        return h >= 0 && h <= HOURS;
    }

    private boolean isKnown(int n) {
        return n >= 0 && n <= valley.rain.size;
    }

    /** Grinds the grists of a mill with its work in the hours ahead of an end. */
    private void grind(int m, int n, int end) {
        grists.restart();
        valley.begin(now, n, NONE);
        for (int h = 0; h < end; h++) {
            valley.step(now);
            grists.take(m, h, now.row[WORK][m]);
        }
    }

    /** The mills as they were built, the spring, and the factors that are told for all of them. */
    private static final class Mills {
        private static final int MOST_CAP = 1000;
        private static final int MOST_WHEEL = 4;
        private static final int MOST_GATE = 9;
        private static final int MOST_FACTORS = 20;
        private static final int MOST_FACTOR = 100;
        private static final int HEAD_OF_FACTOR = 10;

        final int[] cap = new int[MOST_MILLS];
        final int[] mark = new int[MOST_MILLS];
        final int[] wheel = new int[MOST_MILLS];
        final int[] gate = new int[MOST_MILLS];
        int size = 0;
        int spring = 0;
        /** How many there are; NONE: missing. */
        int factors = 1;
        private final int[] factorRow = new int[MOST_FACTORS];

        Mills() {
            Arrays.fill(factorRow, 1);
        }

        int add(int newCap, int newMark, int newWheel, int newGate) {
            boolean pond = newCap >= 1 && newCap <= MOST_CAP && newMark >= 0 && newMark <= newCap;
            boolean works = newWheel >= 1 && newWheel <= MOST_WHEEL && newGate >= 0 && newGate <= MOST_GATE;
            if (!pond || !works || size >= MOST_MILLS) {
                return NONE;
            }
            cap[size] = newCap;
            mark[size] = newMark;
            wheel[size] = newWheel;
            gate[size] = newGate;
            size++;
            return size - 1;
        }

        int mostSetting(int m, boolean ofGate) {
            return ofGate ? gate[m] : wheel[m];
        }

        boolean makeFactors(int n) {
            if (n != NONE && (n < 1 || n > MOST_FACTORS)) {
                return false;
            }
            factors = n;
            Arrays.fill(factorRow, 1);
            return true;
        }

        boolean setFactor(int i, int v) {
            if (i < 0 || i >= factors || v < -MOST_FACTOR || v > MOST_FACTOR) {
                return false;
            }
            factorRow[i] = v;
            return true;
        }

        int factorOf(int head) {
            if (head <= 0) {
                return 0;
            }
            return factors == NONE ? 1 : factorRow[Math.min(head / HEAD_OF_FACTOR, factors - 1)];
        }

        /** No hour can bring a mill more work than this. */
        int mostWork(int m) {
            int best = factors == NONE ? 1 : 0;
            for (int i = 0; i < factors; i++) {
                best = Math.max(best, factorRow[i]);
            }
            return 2 * wheel[m] * best;
        }
    }

    /** The facts of rain, and a table of them as known by some number of them. */
    private static final class Rain {
        private static final int MOST = 400;

        int size = 0;
        private final int[] cell = new int[MOST];
        private final int[] amount = new int[MOST];
        private final int[] table = new int[HOURS * MOST_MILLS];
        private int known = 0;

        int add(int h, int m, int v) {
            if (size >= MOST) {
                return NONE;
            }
            cell[size] = h * MOST_MILLS + m;
            amount[size] = v;
            size++;
            return size - 1;
        }

        void know(int n) {
            if (n < known) {
                Arrays.fill(table, 0);
                known = 0;
            }
            for (; known < n && known < size; known++) {
                table[cell[known]] = amount[known];
            }
        }

        int fallen(int h, int m) {
            int i = h * MOST_MILLS + m;
            return i >= 0 && i < table.length ? table[i] : 0;
        }
    }

    /** The orders as they were given; their hours never fall, for the clock does not. */
    private static final class Orders {
        private static final int MOST = 200;

        final int[] hour = new int[MOST];
        final int[] mill = new int[MOST];
        final boolean[] gate = new boolean[MOST];
        final int[] setting = new int[MOST];
        int size = 0;

        int add(int h, int m, boolean ofGate, int v) {
            if (size >= MOST) {
                return NONE;
            }
            hour[size] = h;
            mill[size] = m;
            gate[size] = ofGate;
            setting[size] = v;
            size++;
            return size - 1;
        }

        /** Not so an order that set what was set already, or that a later one of its hour put aside. */
        boolean matters(int k) {
            int ahead = 0;
            for (int i = 0; i < k; i++) {
                ahead = isOfSame(i, k) ? setting[i] : ahead;
            }
            boolean stays = true;
            for (int i = k + 1; i < size && hour[i] == hour[k]; i++) {
                stays = stays && !isOfSame(i, k);
            }
            return stays && ahead != setting[k];
        }

        private boolean isOfSame(int i, int k) {
            return mill[i] == mill[k] && gate[i] == gate[k];
        }
    }

    /** All mills in one hour. Ahead of hour 0 it is a stage of hour -1 in which nothing was. */
    private static final class Stage {
        final int[][] row = new int[ROWS][MOST_MILLS];
        /** The gates by orders; the row of gates has what the law made of them. */
        final int[] ordered = new int[MOST_MILLS];
        int hour = -1;
        /** How many orders are carried out. */
        int given = 0;
        /** The order that is taken as never given, or NONE. */
        int skipped = NONE;

        void clear() {
            for (int i = 0; i < ROWS; i++) {
                Arrays.fill(row[i], 0);
            }
            Arrays.fill(ordered, 0);
            hour = -1;
            given = 0;
            skipped = NONE;
        }

        void copy(Stage from) {
            for (int i = 0; i < ROWS; i++) {
                System.arraycopy(from.row[i], 0, row[i], 0, MOST_MILLS);
            }
            System.arraycopy(from.ordered, 0, ordered, 0, MOST_MILLS);
            hour = from.hour;
            given = from.given;
            skipped = from.skipped;
        }
    }

    /** All that is told of the water, and how it goes from one hour to the next. */
    private static final class Valley {
        private static final int WHEEL_USES = 2;
        private static final int GATE_LETS = 3;
        private static final int OF_MILL = 100;

        final Mills mills = new Mills();
        final Rain rain = new Rain();
        final Orders orders = new Orders();
        final Book book = new Book();

        void begin(Stage s, int n, int skipped) {
            rain.know(n);
            s.clear();
            s.skipped = skipped;
        }

        /** Steps on until the stage is that of an hour. */
        void run(Stage s, int h) {
            for (int i = s.hour; i < h; i++) {
                step(s);
            }
        }

        /** Steps on until the hour ahead of b: the work of a mill on this way, from hour a on. */
        int worked(Stage s, int m, int a, int b) {
            int sum = 0;
            for (int h = s.hour + 1; h < b; h++) {
                step(s);
                sum += h >= a ? s.row[WORK][m] : 0;
            }
            return sum;
        }

        void step(Stage s) {
            enter(s);
            settle(s);
        }

        /** The next hour's beginning: levels, what comes in, and the orders by then. */
        void enter(Stage s) {
            s.hour++;
            for (int m = 0; m < mills.size; m++) {
                s.row[LEVEL][m] += s.row[IN][m] - s.row[OUT][m];
                s.row[IN][m] = rain.fallen(s.hour, m) + (m == 0 ? mills.spring : s.row[OUT][m - 1]);
            }
            for (; s.given < orders.size && orders.hour[s.given] <= s.hour; s.given++) {
                if (s.given != s.skipped) {
                    int[] settings = orders.gate[s.given] ? s.ordered : s.row[WHEEL];
                    settings[orders.mill[s.given]] = orders.setting[s.given];
                }
            }
        }

        void settle(Stage s) {
            for (int m = 0; m < mills.size; m++) {
                int level = s.row[LEVEL][m];
                int water = level + s.row[IN][m];
                int gate = book.law.opened(s, m, mills);
                int head = level - drowned(s, m);
                int used = Math.min(WHEEL_USES * s.row[WHEEL][m], water);
                int through = Math.min(GATE_LETS * gate, water - used);
                int spill = Math.max(water - used - through - mills.cap[m], 0);
                s.row[GATE][m] = gate;
                s.row[HEAD][m] = head;
                s.row[USED][m] = used;
                s.row[WORK][m] = used * mills.factorOf(head);
                s.row[THROUGH][m] = through;
                s.row[SPILL][m] = spill;
                s.row[OUT][m] = used + through + spill;
            }
        }

        /** How much the pond below takes from a wheel's head. */
        private int drowned(Stage s, int m) {
            int next = m + 1;
            return next < mills.size ? Math.max(s.row[LEVEL][next] - mills.mark[next], 0) : 0;
        }

        /** The i-th time that a must is broken in the stage's hour; NONE: not so many. */
        int breach(Stage s, int i) {
            Law law = book.law;
            int ahead = 0;
            for (int m = 0; m < mills.size && law.rules > 0; m++) {
                law.look(s, m, mills);
                law.seeOutcome(s, m);
                for (int r = 0; r < law.rules; r++) {
                    if (law.isBroken(r, m)) {
                        if (ahead == i) {
                            return OF_MILL * m + r;
                        }
                        ahead++;
                    }
                }
            }
            return NONE;
        }
    }

    /** The grists as they were brought, and how far they are ground by the latest grinding. */
    private static final class Grists {
        private static final int MOST = 60;

        final int[] hour = new int[MOST];
        final int[] mill = new int[MOST];
        final int[] work = new int[MOST];
        final int[] ground = new int[MOST];
        /** The hour; NONE: not yet. */
        final int[] finished = new int[MOST];
        int size = 0;

        int add(int h, int m, int w) {
            if (size >= MOST) {
                return NONE;
            }
            hour[size] = h;
            mill[size] = m;
            work[size] = w;
            size++;
            return size - 1;
        }

        void restart() {
            Arrays.fill(ground, 0);
            Arrays.fill(finished, NONE);
        }

        /** The work of an hour goes to a mill's grists; those that are finished take none of it. */
        void take(int m, int h, int w) {
            int left = w;
            for (int g = 0; g < size && left > 0; g++) {
                if (mill[g] == m && hour[g] <= h && finished[g] == NONE) {
                    int part = Math.min(left, work[g] - ground[g]);
                    ground[g] += part;
                    left -= part;
                    if (ground[g] == work[g]) {
                        finished[g] = h;
                    }
                }
            }
        }

        int tollsOf(int m) {
            int sum = 0;
            for (int g = 0; g < size; g++) {
                sum += mill[g] == m && finished[g] != NONE ? work[g] / TOLL_PART : 0;
            }
            return sum;
        }
    }

    /** Looks for plans, the first by their wheels first, and keeps the latest that there was. */
    private static final class Planner {
        static final int MOST_HOURS = 6;

        /** The latest plan's. */
        final int[] wheels = new int[MOST_HOURS];
        int size = 0;
        private final Stage[] stages = new Stage[MOST_HOURS];
        private final int[] tried = new int[MOST_HOURS];
        private final int[] best = new int[MOST_HOURS];
        /** What goes to waste by the best one so far. */
        private int leastWaste;
        private int mill;
        private int hours;
        private int need;
        private int mostWork;
        private int mostWheel;

        Planner() {
            for (int i = 0; i < MOST_HOURS; i++) {
                stages[i] = new Stage();
            }
        }

        /** What is asked for with the next find. */
        void ask(int m, int k, int work, Mills mills) {
            mill = m;
            hours = k;
            need = work;
            mostWork = mills.mostWork(m);
            mostWheel = mills.wheel[m];
            leastWaste = Integer.MAX_VALUE;
        }

        /** Makes the best plan for the hours behind a stage the latest one: its waste; NONE: there is none. */
        int find(Valley valley, Stage from) {
            search(valley, from, 0, 0, 0);
            if (leastWaste == Integer.MAX_VALUE) {
                return NONE;
            }
            System.arraycopy(best, 0, wheels, 0, MOST_HOURS);
            size = hours;
            return leastWaste;
        }

        /** Tries all wheels of the hour behind a stage, with what the hours ahead of it wasted and worked. */
        private void search(Valley valley, Stage from, int depth, int waste, int work) {
            if (depth >= hours || depth >= MOST_HOURS) {
                leastWaste = waste;
                System.arraycopy(tried, 0, best, 0, MOST_HOURS);
                return;
            }
            Stage s = stages[depth];
            // Waste only grows, and of equal plans the first counts: what does not waste less is cut off.
            for (int w = 0; w <= mostWheel && waste < leastWaste; w++) {
                tried[depth] = w;
                s.copy(from);
                valley.enter(s);
                s.row[WHEEL][mill] = w;
                valley.settle(s);
                int wasted = waste + s.row[THROUGH][mill] + s.row[SPILL][mill];
                int worked = work + s.row[WORK][mill];
                boolean enough = worked + mostWork * (hours - depth - 1) >= need;
                if (wasted < leastWaste && enough && valley.breach(s, 0) == NONE) {
                    search(valley, s, depth + 1, wasted, worked);
                }
            }
        }
    }

    /** The bytes that were fed and not yet read. */
    private static final class Tape {
        static final int MOST = 2000;
        static final int FEED = 20;
        /** What is beyond the tape's end, instead of a byte. */
        static final int NOTHING = -1;

        int size = 0;
        private final byte[] bytes = new byte[MOST];

        void append(int word) {
            for (int shift = 24; shift >= 0 && size < MOST; shift -= 8) {
                bytes[size] = (byte) (word >> shift);
                size++;
            }
        }

        int peek(int p) {
            return p >= 0 && p < size ? bytes[p] & 255 : NOTHING;
        }
    }

    /** The tokens of a tape: their kinds and places. The last one is the end, what is no token, or one too many. */
    private static final class Tokens {
        static final int MOST = 600;

        static final int END = 0;
        static final int BAD = 1;
        static final int INT = 2;
        static final int NAME = 3;
        static final int SEMICOLON = 4;
        static final int COLON = 5;
        static final int OPEN = 6;
        static final int CLOSE = 7;
        static final int PLUS = 8;
        static final int MINUS = 9;
        static final int TIMES = 10;
        static final int EQUAL = 11;
        static final int UNEQUAL = 12;
        static final int LESS = 13;
        static final int AT_MOST = 14;
        /** No token, but what a minus ahead of a part becomes in a rule's code. */
        static final int NEGATE = 15;
        static final int WORD = 16;
        static final int ACT = 16;
        static final int FROM = 17;
        static final int UNTIL = 18;
        static final int END_OF_ACT = 19;
        static final int MUST = 20;
        static final int IF = 21;
        static final int OPENS = 22;
        static final int MILL = 23;
        static final int ANY = 24;
        static final int OR = 25;
        static final int AND = 26;
        static final int VAR = 27;

        private static final int MOST_LETTERS = 8;
        private static final int MOST_DIGITS = 4;
        private static final int SIGN = 0;
        private static final int LETTER = 1;
        private static final int DIGIT = 2;
        private static final int BLANK = 3;

        /** The words that are no names, in the order of their kinds, each in eight columns. */
        private static final String WORDS = "act     from    until   end     must    if      opens   mill    any     or      and     level   mark    cap     below   above   in      wheel   gate    hour    day     work    out     ";

        final int[] kind = new int[MOST + 1];
        final int[] place = new int[MOST + 1];
        /** The values of ints; of other kinds 0. */
        final int[] number = new int[MOST + 1];

        void scan(Tape tape) {
            int p = 0;
            for (int i = 0; i <= MOST; i++) {
                while (p < tape.size && sortOf(tape.peek(p)) == BLANK) {
                    p++;
                }
                int end = endOf(tape, p);
                place[i] = p;
                kind[i] = kindOf(tape, p, end);
                if (kind[i] == END || kind[i] == BAD) {
                    return;
                }
                number[i] = kind[i] == INT ? numberOf(tape, p, end) : 0;
                p = end;
            }
        }

        /** A name as a number of its own. */
        long name(Tape tape, int i) {
            long sum = 0;
            int p = place[i];
            for (int j = 0; j < MOST_LETTERS && sortOf(tape.peek(p + j)) == LETTER; j++) {
                sum = 32 * sum + tape.peek(p + j) - 'a' + 1;
            }
            return sum;
        }

        private static int numberOf(Tape tape, int p, int end) {
            int sum = 0;
            for (int j = p; j < end; j++) {
                sum = 10 * sum + tape.peek(j) - '0';
            }
            return sum;
        }

        private static int sortOf(int c) {
            if (c >= 'a' && c <= 'z') {
                return LETTER;
            }
            if (c >= '0' && c <= '9') {
                return DIGIT;
            }
            return c == 9 || c == 10 || c == 13 || c == 32 ? BLANK : SIGN;
        }

        /** The place behind the longest token that can be at a place. */
        private static int endOf(Tape tape, int p) {
            int c = tape.peek(p);
            int sort = sortOf(c);
            int end = p + 1;
            if (sort == SIGN) {
                boolean pair = (c == '=' || c == '!' || c == '<') && tape.peek(end) == '=';
                return pair ? end + 1 : end;
            }
            while (end < tape.size && sortOf(tape.peek(end)) == sort) {
                end++;
            }
            return end;
        }

        private static int kindOf(Tape tape, int p, int end) {
            int c = tape.peek(p);
            switch (sortOf(c)) {
                case LETTER:
                    return end - p > MOST_LETTERS ? BAD : wordKind(tape, p, end);
                case DIGIT:
                    return end - p > MOST_DIGITS ? BAD : INT;
                default:
                    return c == Tape.NOTHING ? END : signKind(c, end - p == 2);
            }
        }

        private static int wordKind(Tape tape, int p, int end) {
            for (int start = 0; start + MOST_LETTERS <= WORDS.length(); start += MOST_LETTERS) {
                boolean same = true;
                for (int j = 0; j < MOST_LETTERS && same; j++) {
                    int c = p + j < end ? tape.peek(p + j) : ' ';
                    same = WORDS.charAt(start + j) == c;
                }
                if (same) {
                    return WORD + start / MOST_LETTERS;
                }
            }
            return NAME;
        }

        private static int signKind(int c, boolean pair) {
            switch (c) {
                case ';':
                    return SEMICOLON;
                case ':':
                    return COLON;
                case '(':
                    return OPEN;
                case ')':
                    return CLOSE;
                case '+':
                    return PLUS;
                case '-':
                    return MINUS;
                case '*':
                    return TIMES;
                case '=':
                    return pair ? EQUAL : BAD;
                case '!':
                    return pair ? UNEQUAL : BAD;
                case '<':
                    return pair ? AT_MOST : LESS;
                default:
                    return BAD;
            }
        }
    }

    /**
     * Reads the tape's text into a draft of the law, from the first token to the last; each method takes what its
     * name says and answers whether it could. It stops at the first fault of syntax or room; a fault of other kind
     * is only noted, for it counts only if there is none of those in all the text.
     */
    private static final class Book {
        private static final int SYNTAX = 1;
        private static final int ROOM = 2;
        private static final int TWICE = 3;
        private static final int WRONG = 5;
        private static final int MOST_DEPTH = 8;

        final Tape tape = new Tape();
        final Law law = new Law();
        int faultPlace = NONE;
        private final Tokens tokens = new Tokens();
        private int next = 0;
        /** What stops a text that cannot be read to its end: its syntax, unless there is no room. */
        private int fault = SYNTAX;
        private int lateFault = 0;
        private int latePlace = NONE;

        void open() {
            tokens.scan(tape);
            law.startDraft();
            next = 0;
            fault = SYNTAX;
            lateFault = 0;
            latePlace = NONE;
        }

        /** Empties the tape, and adds the draft to the law if it has no fault: 0, or the fault's number. */
        int close(boolean whole) {
            tape.size = 0;
            if (!whole) {
                faultPlace = next <= Tokens.MOST ? tokens.place[next] : NONE;
                return fault;
            }
            if (lateFault == 0) {
                law.takeDraft();
            }
            faultPlace = latePlace;
            return lateFault;
        }

        boolean text() {
            for (int i = 0; i <= Law.MOST_ACTS && kind() == Tokens.ACT; i++) {
                if (!heading()) {
                    return false;
                }
                for (int j = 0; j <= Law.MOST_RULES && (kind() == Tokens.MILL || kind() == Tokens.ANY); j++) {
                    if (!rule()) {
                        return false;
                    }
                }
                if (!take(Tokens.END_OF_ACT)) {
                    return false;
                }
            }
            return kind() == Tokens.END;
        }

        private boolean heading() {
            if (law.draftActs >= Law.MOST_ACTS) {
                fault = ROOM;
                return false;
            }
            int name = next + 1;
            if (!take(Tokens.ACT) || !take(Tokens.NAME)) {
                return false;
            }
            long packed = tokens.name(tape, name);
            if (law.hasAct(packed)) {
                note(TWICE, name);
            }
            int from = next + 1;
            if (!take(Tokens.FROM) || !take(Tokens.INT)) {
                return false;
            }
            int fromDay = tokens.number[from];
            int untilDay = NONE;
            if (kind() == Tokens.UNTIL) {
                int until = next + 1;
                if (!take(Tokens.UNTIL) || !take(Tokens.INT)) {
                    return false;
                }
                untilDay = tokens.number[until];
                if (untilDay <= fromDay) {
                    note(WRONG, until);
                }
            }
            law.draftAct(packed, fromDay, untilDay);
            return take(Tokens.SEMICOLON);
        }

        private boolean rule() {
            int r = law.draftRules;
            if (r >= Law.MOST_RULES) {
                fault = ROOM;
                return false;
            }
            law.draftRule();
            if (!who(r)) {
                return false;
            }
            law.opens[r] = kind() == Tokens.OPENS;
            boolean told = law.opens[r] ? take(Tokens.OPENS) && sum(0) : take(Tokens.MUST) && condition();
            law.middle[r] = law.draftCodes;
            if (!told) {
                return false;
            }
            if (kind() == Tokens.IF && !(take(Tokens.IF) && condition())) {
                return false;
            }
            law.end[r] = law.draftCodes;
            return take(Tokens.SEMICOLON);
        }

        private boolean who(int r) {
            law.who[r] = NONE;
            if (kind() == Tokens.ANY) {
                return take(Tokens.ANY);
            }
            int number = next + 1;
            if (!take(Tokens.MILL) || !take(Tokens.INT)) {
                return false;
            }
            law.who[r] = tokens.number[number];
            if (law.who[r] >= MOST_MILLS) {
                note(WRONG, number);
            }
            return true;
        }

        /** An 'or' waits until all that 'and' joins behind it is there. */
        private boolean condition() {
            boolean waits = false;
            if (!relation()) {
                return false;
            }
            for (int i = 0; i < Tokens.MOST && (kind() == Tokens.AND || kind() == Tokens.OR); i++) {
                int joint = kind();
                if (joint == Tokens.OR && waits) {
                    law.emit(-Tokens.OR);
                }
                waits = waits || joint == Tokens.OR;
                if (!take(joint) || !relation()) {
                    return false;
                }
                if (joint == Tokens.AND) {
                    law.emit(-Tokens.AND);
                }
            }
            if (waits) {
                law.emit(-Tokens.OR);
            }
            return true;
        }

        private boolean relation() {
            if (!sum(0)) {
                return false;
            }
            int sign = kind();
            if (sign < Tokens.EQUAL || sign > Tokens.AT_MOST || !take(sign) || !sum(0)) {
                return false;
            }
            law.emit(-sign);
            return true;
        }

        /** A '+' or '-' waits until all that '*' joins behind it is there. */
        private boolean sum(int depth) {
            int waits = kind() == Tokens.MINUS ? Tokens.NEGATE : 0;
            if (waits != 0 && !take(Tokens.MINUS) || !unit(depth)) {
                return false;
            }
            for (int i = 0; i < Tokens.MOST && kind() >= Tokens.PLUS && kind() <= Tokens.TIMES; i++) {
                int sign = kind();
                if (sign != Tokens.TIMES) {
                    if (waits != 0) {
                        law.emit(-waits);
                    }
                    waits = sign;
                }
                if (!take(sign) || !unit(depth)) {
                    return false;
                }
                if (sign == Tokens.TIMES) {
                    law.emit(-sign);
                }
            }
            if (waits != 0) {
                law.emit(-waits);
            }
            return true;
        }

        private boolean unit(int depth) {
            int kind = kind();
            if (kind == Tokens.INT || kind >= Tokens.VAR) {
                law.emit(kind == Tokens.INT ? tokens.number[next] : -kind);
                return take(kind);
            }
            if (kind == Tokens.OPEN && depth >= MOST_DEPTH) {
                fault = ROOM;
                return false;
            }
            return take(Tokens.OPEN) && sum(depth + 1) && take(Tokens.CLOSE);
        }

        private int kind() {
            return next <= Tokens.MOST ? tokens.kind[next] : Tokens.BAD;
        }

        /** Goes on behind a token of the kind that is wanted, if it is one and not one too many. */
        private boolean take(int wanted) {
            if (next > Tokens.MOST || tokens.kind[next] != wanted) {
                return false;
            }
            if (next == Tokens.MOST) {
                fault = ROOM;
                return false;
            }
            next++;
            return true;
        }

        private void note(int number, int token) {
            if (lateFault == 0 && token <= Tokens.MOST) {
                lateFault = number;
                latePlace = tokens.place[token];
            }
        }
    }

    /**
     * The acts and rules, and behind them those of the draft of a text that is being read.
     *
     * What a rule tells is code, its operands ahead of its operators: ints as they are, all else as its token's
     * kind below 0.
     */
    private static final class Law {
        static final int MOST_ACTS = 10;
        static final int MOST_RULES = 30;
        private static final int VARS = 12;
        private static final int VAR_GATE = 7;
        private static final int VAR_WORK = 10;
        private static final int VAR_OUT = 11;
        /** Two operands wait in each of nine sums within one another, and two conditions; rounded up. */
        private static final int MOST_OPERANDS = 32;

        int acts = 0;
        int rules = 0;
        int draftActs = 0;
        int draftRules = 0;
        int draftCodes = 0;
        /** A rule's mill; NONE: any. */
        final int[] who = new int[MOST_RULES];
        final boolean[] opens = new boolean[MOST_RULES];
        /** Where the code of a rule's 'if' begins: at its end if there is none. */
        final int[] middle = new int[MOST_RULES];
        final int[] end = new int[MOST_RULES];
        private final int[] start = new int[MOST_RULES];
        private final int[] actOf = new int[MOST_RULES];
        private final long[] names = new long[MOST_ACTS];
        private final int[] from = new int[MOST_ACTS];
        private final int[] until = new int[MOST_ACTS];
        private int[] code = new int[Tokens.MOST];
        private int codes = 0;
        private final int[] vars = new int[VARS];
        private final int[] operands = new int[MOST_OPERANDS];
        private int day = 0;

        void startDraft() {
            draftActs = acts;
            draftRules = rules;
            draftCodes = codes;
            if (code.length < codes + Tokens.MOST) {
                code = Arrays.copyOf(code, codes + Tokens.MOST);
            }
        }

        void takeDraft() {
            acts = draftActs;
            rules = draftRules;
            codes = draftCodes;
        }

        boolean hasAct(long name) {
            for (int i = 0; i < draftActs; i++) {
                if (names[i] == name) {
                    return true;
                }
            }
            return false;
        }

        void draftAct(long name, int fromDay, int untilDay) {
            if (draftActs < MOST_ACTS) {
                names[draftActs] = name;
                from[draftActs] = fromDay;
                until[draftActs] = untilDay;
                draftActs++;
            }
        }

        void draftRule() {
            if (draftRules < MOST_RULES) {
                actOf[draftRules] = draftActs - 1;
                start[draftRules] = draftCodes;
                draftRules++;
            }
        }

        void emit(int c) {
            if (draftCodes < code.length) {
                code[draftCodes] = c;
                draftCodes++;
            }
        }

        /** The gate of a mill by orders and by all that opens it. */
        int opened(Stage s, int m, Mills mills) {
            int gate = s.ordered[m];
            if (rules > 0) {
                look(s, m, mills);
            }
            for (int r = 0; r < rules; r++) {
                if (opens[r] && isFor(r, m)) {
                    gate = Math.max(gate, Math.min(valueOf(start[r], middle[r]), mills.gate[m]));
                }
            }
            return gate;
        }

        boolean isBroken(int r, int m) {
            return !opens[r] && isFor(r, m) && valueOf(start[r], middle[r]) == 0;
        }

        /** Takes the vars of a mill as they are before its gate is opened. */
        void look(Stage s, int m, Mills mills) {
            day = s.hour / HOURS_OF_DAY;
            vars[0] = s.row[LEVEL][m];
            vars[1] = mills.mark[m];
            vars[2] = mills.cap[m];
            vars[3] = m + 1 < mills.size ? s.row[LEVEL][m + 1] : 0;
            vars[4] = m > 0 ? s.row[LEVEL][m - 1] : 0;
            vars[5] = s.row[IN][m];
            vars[6] = s.row[WHEEL][m];
            vars[VAR_GATE] = s.ordered[m];
            vars[8] = s.hour % HOURS_OF_DAY;
            vars[9] = day;
            vars[VAR_WORK] = 0;
            vars[VAR_OUT] = 0;
        }

        /** Takes, of those that were looked at, the vars that are otherwise once the hour is settled. */
        void seeOutcome(Stage s, int m) {
            vars[VAR_GATE] = s.row[GATE][m];
            vars[VAR_WORK] = s.row[WORK][m];
            vars[VAR_OUT] = s.row[OUT][m];
        }

        /** Whether a rule is for a mill, in force on the day that was looked at, and its 'if' holds. */
        private boolean isFor(int r, int m) {
            boolean told = (who[r] == NONE || who[r] == m) && isInForce(actOf[r]);
            return told && (middle[r] == end[r] || valueOf(middle[r], end[r]) != 0);
        }

        private boolean isInForce(int a) {
            return a >= 0 && day >= from[a] && (until[a] == NONE || day < until[a]);
        }

        private int valueOf(int begin, int behind) {
            int top = 0;
            for (int i = begin; i < behind && i < code.length; i++) {
                int c = code[i];
                if (c >= 0 || c <= -Tokens.VAR) {
                    if (top < MOST_OPERANDS) {
                        operands[top] = c >= 0 ? c : valueOfVar(-c - Tokens.VAR);
                        top++;
                    }
                } else if (c == -Tokens.NEGATE && top > 0) {
                    operands[top - 1] = -operands[top - 1];
                } else if (top > 1) {
                    top--;
                    operands[top - 1] = joined(-c, operands[top - 1], operands[top]);
                }
            }
            return operands[0];
        }

        private int valueOfVar(int v) {
            return v < VARS ? vars[v] : 0;
        }

        private static int joined(int sign, int a, int b) {
            switch (sign) {
                case Tokens.PLUS:
                    return a + b;
                case Tokens.MINUS:
                    return a - b;
                case Tokens.TIMES:
                    return a * b;
                case Tokens.EQUAL:
                    return a == b ? 1 : 0;
                case Tokens.UNEQUAL:
                    return a != b ? 1 : 0;
                case Tokens.LESS:
                    return a < b ? 1 : 0;
                case Tokens.AT_MOST:
                    return a <= b ? 1 : 0;
                case Tokens.AND:
                    return a & b;
                default:
                    return a | b;
            }
        }
    }
}
