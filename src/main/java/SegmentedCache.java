public final class SegmentedCache {
    public static final int NONE = -1, BAD = -2, STATE = -3, FULL = -4;
    public static final long NO = Long.MIN_VALUE;

    private static final int NO_SUCH = -5;
    private static final int NOTHING = -11, CAST = -12, PLACE = -13, SIZE = -14;

    private static final int SPACES = 4, NUMBERS = 100, KEYS = SPACES * NUMBERS;
    private static final int MOST_WEIGHT = 9, MOST_COST = 99, MOST_HITS = 99;

    /** What set and told know by these numbers; told goes on behind them. */
    private static final int CAPACITY = 0, BORDER = 1, RISE = 2, LIVES = 3;
    private static final int SETTINGS = 4, MOST_CAPACITY = 99, MOST_RISE = 9, MOST_LIVES = 9;
    private static final int TOLD_WEIGHTS = 4, TOLD_TALLIES = 8, TOLD_WENT = 13;

    /** Where a key is. */
    private static final int NOWHERE = 0, PROBATION = 1, PROTECTED = 2;
    private static final int PROBATION_GHOSTS = 3, PROTECTED_GHOSTS = 4, PLACES = 5;

    /** The rows of facts about keys, by the numbers that of has for them. */
    private static final int WHERE = 0, WEIGHT = 1, COST = 2, HITS = 3, CHANCES = 4, PINNED = 5;
    private static final int PLACE_THERE = 6, VALUE = 6, FACTS = 7;

    /** What is counted since the object was made, in the order of told. */
    private static final int HAD = 0, MISSED = 1, HAUNTED = 2, SAVED = 3, PAID = 4, TALLIES = 5;

    /** What would asks for. */
    private static final int WOULD_HAD = 0, WOULD_MISSED = 1, WOULD_HAUNTED = 2;
    private static final int WOULD_BORDER = 3, WOULD_WEIGHT = 4, WOULD_WENT = 5;

    /** What put answers. */
    private static final int NEW = 0, BY_GHOST = 1, WAS_THERE = 2;

    private static final int KEPT_GONE = 20, TRACES = 6, CLAUSES = 20, TEXT_ROOM = 100;
    private static final int MOST_SIGN = 127, MOST_ASKED = 20, MOST_NEED = 60;
    private static final int BOOK_ROWS = 8, TAPES = 6, TAPE_ROOM = 60;

    /** Sorts of tapes. */
    private static final int EMPTY = -1, BYTES = 0, SHORTS = 1, INTS = 2, LONGS = 3, BOOLEANS = 4;

    private static final int ROW_ENDED = 100;

    /** No run of calls comes near it; it only lets every loop's end be seen. */
    private static final int STEPS = 1000000;

    private final Store live = new Store();
    /** What is asked and changes nothing is played through in this one. */
    private final Store trial = new Store();
    /** Null as long as no image was taken. */
    private Store kept;

    private final Text text = new Text();
    private final Trace[] traces = new Trace[TRACES];
    private int traceCount;
    private final Tape[] tapes = new Tape[TAPES];

    public SegmentedCache() {
        for (int i = 0; i < TRACES; i++) {
            traces[i] = new Trace();
        }
        for (int i = 0; i < TAPES; i++) {
            tapes[i] = new Tape();
        }
    }

    // ---- how it is set

    public int set(int what, int n) {
        if (what < 0 || what >= SETTINGS) {
            return NONE;
        }
        if (n < leastOf(what) || n > mostOf(what)) {
            return BAD;
        }
        int was = live.settings[what];
        live.settings[what] = n;
        if (what == CAPACITY) {
            live.settings[BORDER] = Math.min(live.settings[BORDER], n);
        }
        if (what == CAPACITY || what == BORDER) {
            live.trim();
        }
        return was;
    }

    public int told(int what) {
        if (what < 0 || what > TOLD_WENT) {
            return NONE;
        }
        if (what < TOLD_WEIGHTS) {
            return live.settings[what];
        }
        if (what < TOLD_TALLIES) {
            return live.queues.weights[what - TOLD_WEIGHTS + PROBATION];
        }
        if (what < TOLD_WENT) {
            return live.tallies[what - TOLD_TALLIES];
        }
        return live.leavers.total;
    }

    private static int leastOf(int what) {
        return what == CAPACITY || what == RISE ? 1 : 0;
    }

    private int mostOf(int what) {
        switch (what) {
            case CAPACITY:
                return MOST_CAPACITY;
            case BORDER:
                return live.settings[CAPACITY];
            case RISE:
                return MOST_RISE;
            default:
                return MOST_LIVES;
        }
    }

    // ---- things

    public int put(int space, int number, int value, int weight, int cost) {
        int key = keyOf(space, number);
        if (key < 0) {
            return NONE;
        }
        if (weight < 1 || weight > MOST_WEIGHT || cost < 0 || cost > MOST_COST) {
            return BAD;
        }
        if (weight > live.settings[CAPACITY]) {
            return FULL;
        }
        return live.store(key, value, weight, cost);
    }

    public long get(int space, int number) {
        int key = keyOf(space, number);
        if (key < 0) {
            return NO;
        }
        return live.fetch(key) ? live.facts[VALUE][key] : NO;
    }

    public int drop(int space, int number) {
        int key = keyOf(space, number);
        if (key < 0) {
            return NONE;
        }
        int where = live.facts[WHERE][key];
        live.move(key, NOWHERE);
        return where;
    }

    public int pin(int space, int number, boolean isPinned) {
        int key = keyOf(space, number);
        if (key < 0) {
            return NONE;
        }
        if (!live.isThing(key)) {
            return STATE;
        }
        int was = live.facts[PINNED][key];
        live.facts[PINNED][key] = isPinned ? 1 : 0;
        return was;
    }

    public int of(int space, int number, int what) {
        int key = keyOf(space, number);
        if (key < 0 || what < WHERE || what > PLACE_THERE) {
            return NONE;
        }
        int where = live.facts[WHERE][key];
        if (what == WHERE) {
            return where;
        }
        if (what == PLACE_THERE) {
            return live.placeOf(key);
        }
        boolean hasIt = what == WEIGHT ? where != NOWHERE : live.isThing(key);
        return hasIt ? live.facts[what][key] : NO_SUCH;
    }

    public int key(int where, int k) {
        if (where < PROBATION || where >= PLACES || k < 0) {
            return NONE;
        }
        return live.queues.keyAt(where, k);
    }

    public int gone(int k) {
        if (k < 0) {
            return NONE;
        }
        int total = live.leavers.total;
        return k < Math.min(KEPT_GONE, total) ? live.leavers.at(total - 1 - k) : NO_SUCH;
    }

    public int victim(int k) {
        if (k < 0) {
            return NONE;
        }
        rehearse(0, 0);
        int before = live.leavers.total;
        int after = trial.leavers.total;
        return k < after - before ? trial.leavers.at(before + k) : NO_SUCH;
    }

    private static int keyOf(int space, int number) {
        if (space < 0 || space >= SPACES || number < 0 || number >= NUMBERS) {
            return NONE;
        }
        return space * NUMBERS + number;
    }

    /** The trial is as all is now, but with these two, and trimmed by them. */
    private void rehearse(int capacity, int border) {
        trial.copyFrom(live);
        trial.settings[CAPACITY] = capacity;
        trial.settings[BORDER] = border;
        trial.trim();
    }

    // ---- traces

    public int feed(int sign) {
        if (sign < 0 || sign > MOST_SIGN) {
            return BAD;
        }
        if (text.length >= TEXT_ROOM) {
            return FULL;
        }
        text.signs[text.length] = sign;
        text.length++;
        return text.length;
    }

    public int trace() {
        if (traceCount >= TRACES) {
            return FULL;
        }
        int fault = text.readInto(traces[traceCount]);
        text.length = 0;
        if (fault >= 0) {
            return -10 - fault;
        }
        traceCount++;
        return traceCount - 1;
    }

    public int run(int trace) {
        if (!isTrace(trace)) {
            return NONE;
        }
        return live.perform(traces[trace]);
    }

    public int would(int trace, int what) {
        if (!isTrace(trace) || what < WOULD_HAD || what > WOULD_WENT) {
            return NONE;
        }
        trial.copyFrom(live);
        trial.perform(traces[trace]);
        switch (what) {
            case WOULD_HAD:
                return trial.tallies[HAD] - live.tallies[HAD];
            case WOULD_MISSED:
                return trial.tallies[MISSED] - live.tallies[MISSED];
            case WOULD_HAUNTED:
                return trial.tallies[HAUNTED] - live.tallies[HAUNTED];
            case WOULD_BORDER:
                return trial.settings[BORDER];
            case WOULD_WEIGHT:
                return trial.weightOfThings();
            default:
                return trial.leavers.total - live.leavers.total;
        }
    }

    public int need(int trace, int h) {
        if (!isTrace(trace)) {
            return NONE;
        }
        if (h < 0 || h > MOST_ASKED) {
            return BAD;
        }
        for (int capacity = 1; capacity <= MOST_NEED; capacity++) {
            rehearse(capacity, Math.min(live.settings[BORDER], capacity));
            if (trial.perform(traces[trace]) >= h) {
                return capacity;
            }
        }
        return NO_SUCH;
    }

    public long odds(int trace, int h, int part) {
        if (!isTrace(trace) || h < 0 || h > MOST_ASKED || !isPart(part)) {
            return NO;
        }
        int capacity = live.settings[CAPACITY];
        int enough = 0;
        for (int border = 0; border <= capacity; border++) {
            rehearse(capacity, border);
            if (trial.perform(traces[trace]) >= h) {
                enough++;
            }
        }
        return partOf(enough, capacity + 1, part);
    }

    public long mean(int where, int part) {
        if (where != PROBATION && where != PROTECTED || !isPart(part)) {
            return NO;
        }
        int size = live.queues.sizes[where];
        int costs = 0;
        int key = live.queues.oldest(where);
        for (int k = 0; k < size; k++) {
            costs += live.facts[COST][key];
            key = live.queues.newer[key];
        }
        return partOf(costs, size, part);
    }

    private boolean isTrace(int trace) {
        return trace >= 0 && trace < traceCount;
    }

    private static boolean isPart(int part) {
        return part == 0 || part == 1;
    }

    /** Part 0 is above the line, 1 below it, in lowest terms; NO if there is nothing to divide by. */
    private static long partOf(int above, int below, int part) {
        int divisor = commonDivisor(above, below);
        if (below == 0 || divisor == 0) {
            return NO;
        }
        return (part == 0 ? above : below) / divisor;
    }

    private static int commonDivisor(int a, int b) {
        int divisor = a;
        int rest = b;
        for (int step = 0; step < STEPS && rest != 0; step++) {
            int next = divisor % rest;
            divisor = rest;
            rest = next;
        }
        return divisor;
    }

    // ---- books

    public int book(int space, int number, int where) {
        Book rows = live.book;
        if (space == -1) {
            rows.size = 0;
            return 0;
        }
        int key = keyOf(space, number);
        if (key < 0) {
            return NONE;
        }
        if (where < NOWHERE || where >= PLACES) {
            return BAD;
        }
        if (rows.size >= BOOK_ROWS) {
            return FULL;
        }
        rows.keys[rows.size] = key;
        rows.wheres[rows.size] = where;
        rows.size++;
        return rows.size;
    }

    public int looked() {
        Book rows = live.book;
        for (int row = 0; row < rows.size; row++) {
            if (live.facts[WHERE][rows.keys[row]] != rows.wheres[row]) {
                return row;
            }
        }
        return NO_SUCH;
    }

    // ---- judging, the image, tapes

    public int judge(int tape, int i) {
        if (!isTape(tape)) {
            return NONE;
        }
        Tape row = tapes[tape];
        if (row.sort != EMPTY && row.sort != SHORTS) {
            return CAST;
        }
        int size = live.queues.sizes[PROBATION];
        int told = row.sort == EMPTY || i < 0 || i > row.length ? 0 : row.length - i;
        int key = live.queues.oldest(PROBATION);
        for (int k = 0; k < size; k++) {
            if (k >= told) {
                return ROW_ENDED + k;
            }
            if (row.items[i + k] != key) {
                return k;
            }
            key = live.queues.newer[key];
        }
        return NO_SUCH;
    }

    public int image() {
        if (kept == null) {
            kept = new Store();
        }
        kept.copyFrom(live);
        return live.thingCount();
    }

    public int undo() {
        if (kept == null) {
            return STATE;
        }
        live.copyFrom(kept);
        return live.thingCount();
    }

    public int count(int what) {
        switch (what) {
            case 0:
            case 1:
            case 2:
            case 3:
                return live.queues.sizes[what + PROBATION];
            case 4:
                return traceCount;
            case 5:
                return live.book.size;
            case 6:
                return text.length;
            default:
                return BAD;
        }
    }

    public int tape(int tape, int sort, int n) {
        if (!isTape(tape)) {
            return NONE;
        }
        if (sort < EMPTY || sort > BOOLEANS) {
            return BAD;
        }
        if (sort == EMPTY) {
            tapes[tape].become(EMPTY, 0);
            return 1;
        }
        if (n > TAPE_ROOM) {
            return BAD;
        }
        if (n < 0) {
            return SIZE;
        }
        tapes[tape].become(sort, n);
        return 1;
    }

    public int item(int tape, int i, long v) {
        if (!isTape(tape)) {
            return NONE;
        }
        Tape row = tapes[tape];
        if (row.sort == EMPTY) {
            return NOTHING;
        }
        if (i < 0 || i >= row.length) {
            return PLACE;
        }
        row.items[i] = row.asItem(v);
        return 1;
    }

    public long read(int tape, int i) {
        if (!isTape(tape)) {
            return NO;
        }
        Tape row = tapes[tape];
        return i >= 0 && i < row.length ? row.items[i] : NO;
    }

    public int shift(int tape, int i, int other, int j, int n) {
        if (!isTape(tape) || !isTape(other)) {
            return NONE;
        }
        Tape from = tapes[tape];
        Tape to = tapes[other];
        if (from.sort == EMPTY || to.sort == EMPTY) {
            return NOTHING;
        }
        if (from.sort != to.sort) {
            return CAST;
        }
        if (!from.hasRange(i, n) || !to.hasRange(j, n)) {
            return PLACE;
        }
        System.arraycopy(from.items, i, to.items, j, n);
        return n;
    }

    private static boolean isTape(int tape) {
        return tape >= 0 && tape < TAPES;
    }

    /** All that an image holds: how it is set, what was counted, where which key is, the book. */
    private static final class Store {
        final int[] settings = new int[SETTINGS];
        final int[] tallies = new int[TALLIES];
        final Queues queues = new Queues();
        final int[][] facts = new int[FACTS][KEYS];
        final Leavers leavers = new Leavers();
        final Book book = new Book();

        Store() {
            settings[CAPACITY] = 20;
            settings[BORDER] = 10;
            settings[RISE] = 2;
            settings[LIVES] = 1;
        }

        void copyFrom(Store other) {
            System.arraycopy(other.settings, 0, settings, 0, SETTINGS);
            System.arraycopy(other.tallies, 0, tallies, 0, TALLIES);
            queues.copyFrom(other.queues);
            for (int i = 0; i < FACTS; i++) {
                System.arraycopy(other.facts[i], 0, facts[i], 0, KEYS);
            }
            leavers.copyFrom(other.leavers);
            book.copyFrom(other.book);
        }

        boolean isThing(int key) {
            int where = facts[WHERE][key];
            return where == PROBATION || where == PROTECTED;
        }

        int thingCount() {
            return queues.sizes[PROBATION] + queues.sizes[PROTECTED];
        }

        int weightOfThings() {
            return queues.weights[PROBATION] + queues.weights[PROTECTED];
        }

        int placeOf(int key) {
            int where = facts[WHERE][key];
            return where == NOWHERE ? NO_SUCH : queues.placeOf(where, key);
        }

        /** The key leaves where it is and is the newest there where it comes to. */
        void move(int key, int to) {
            int from = facts[WHERE][key];
            if (from != NOWHERE) {
                queues.remove(from, key, facts[WEIGHT][key]);
            }
            facts[WHERE][key] = to;
            if (to != NOWHERE) {
                queues.add(to, key, facts[WEIGHT][key]);
            }
        }

        int store(int key, int value, int weight, int cost) {
            int where = facts[WHERE][key];
            if (isThing(key)) {
                replace(key, value, weight, cost);
            } else {
                admit(key, value, weight, cost);
            }
            trim();
            if (where == NOWHERE) {
                return NEW;
            }
            return where == PROBATION || where == PROTECTED ? WAS_THERE : BY_GHOST;
        }

        void replace(int key, int value, int weight, int cost) {
            queues.weights[facts[WHERE][key]] += weight - facts[WEIGHT][key];
            facts[VALUE][key] = value;
            facts[WEIGHT][key] = weight;
            facts[COST][key] = cost;
            hit(key);
        }

        void admit(int key, int value, int weight, int cost) {
            int where = facts[WHERE][key];
            move(key, NOWHERE);
            if (where == PROBATION_GHOSTS) {
                settings[BORDER] = Math.max(settings[BORDER] - weight, 0);
            } else if (where == PROTECTED_GHOSTS) {
                settings[BORDER] = Math.min(settings[BORDER] + weight, settings[CAPACITY]);
            }
            tallies[PAID] += cost;
            facts[VALUE][key] = value;
            facts[WEIGHT][key] = weight;
            facts[COST][key] = cost;
            facts[HITS][key] = 0;
            facts[CHANCES][key] = where == NOWHERE ? settings[LIVES] : 0;
            facts[PINNED][key] = 0;
            move(key, where == NOWHERE ? PROBATION : PROTECTED);
        }

        void hit(int key) {
            int where = facts[WHERE][key];
            facts[HITS][key] = Math.min(facts[HITS][key] + 1, MOST_HITS);
            boolean rises = where == PROBATION && facts[HITS][key] >= settings[RISE];
            move(key, rises ? PROTECTED : where);
        }

        /** Whether a thing was there. */
        boolean fetch(int key) {
            if (isThing(key)) {
                hit(key);
                tallies[SAVED] += facts[COST][key];
                tallies[HAD]++;
                trim();
                return true;
            }
            tallies[MISSED]++;
            if (facts[WHERE][key] != NOWHERE) {
                tallies[HAUNTED]++;
            }
            return false;
        }

        void trim() {
            demote();
            makeRoom();
            forget(PROBATION_GHOSTS);
            forget(PROTECTED_GHOSTS);
        }

        void demote() {
            for (int step = 0; step < STEPS && queues.weights[PROTECTED] > settings[BORDER]; step++) {
                int key = queues.oldestLoose(PROTECTED, facts[PINNED]);
                if (key < 0) {
                    return;
                }
                facts[HITS][key] = 0;
                move(key, PROBATION);
            }
        }

        void makeRoom() {
            for (int step = 0; step < STEPS && weightOfThings() > settings[CAPACITY]; step++) {
                int ghosts = PROBATION_GHOSTS;
                int key = queues.oldestLoose(PROBATION, facts[PINNED]);
                if (key < 0) {
                    ghosts = PROTECTED_GHOSTS;
                    key = queues.oldestLoose(PROTECTED, facts[PINNED]);
                }
                if (key < 0) {
                    return;
                }
                // Chances count on probation alone: a protected one goes with its chances.
                if (ghosts == PROBATION_GHOSTS && facts[CHANCES][key] > 0) {
                    facts[CHANCES][key]--;
                    move(key, PROBATION);
                } else {
                    move(key, ghosts);
                    leavers.add(key);
                }
            }
        }

        void forget(int ghosts) {
            int size = queues.sizes[ghosts];
            for (int k = 0; k < size && queues.weights[ghosts] > settings[CAPACITY]; k++) {
                move(queues.oldest(ghosts), NOWHERE);
            }
        }

        /** By how many had grew. */
        int perform(Trace trace) {
            int before = tallies[HAD];
            for (int i = 0; i < trace.size; i++) {
                int key = trace.keys[i];
                switch (trace.kinds[i]) {
                    case 'g':
                        fetch(key);
                        break;
                    case 'p':
                        if (trace.weights[i] <= settings[CAPACITY]) {
                            store(key, 0, trace.weights[i], 1);
                        }
                        break;
                    default:
                        move(key, NOWHERE);
                        break;
                }
            }
            return tallies[HAD] - before;
        }
    }

    /**
     * Keys in order, in each place where a key can be. They are chained from the oldest to the newest, and the end
     * of the place is beside both, so that a key leaves and comes without a look at the others.
     */
    private static final class Queues {
        final int[] sizes = new int[PLACES];
        final int[] weights = new int[PLACES];
        final int[] newer = new int[KEYS + PLACES];
        private final int[] older = new int[KEYS + PLACES];

        Queues() {
            for (int where = 0; where < PLACES; where++) {
                newer[KEYS + where] = KEYS + where;
                older[KEYS + where] = KEYS + where;
            }
        }

        void copyFrom(Queues other) {
            System.arraycopy(other.sizes, 0, sizes, 0, PLACES);
            System.arraycopy(other.weights, 0, weights, 0, PLACES);
            System.arraycopy(other.newer, 0, newer, 0, KEYS + PLACES);
            System.arraycopy(other.older, 0, older, 0, KEYS + PLACES);
        }

        void add(int where, int key, int weight) {
            int end = KEYS + where;
            int newest = older[end];
            newer[newest] = key;
            older[key] = newest;
            newer[key] = end;
            older[end] = key;
            sizes[where]++;
            weights[where] += weight;
        }

        void remove(int where, int key, int weight) {
            newer[older[key]] = newer[key];
            older[newer[key]] = older[key];
            sizes[where]--;
            weights[where] -= weight;
        }

        /** The oldest key, or the end if there is none. */
        int oldest(int where) {
            return newer[KEYS + where];
        }

        int keyAt(int where, int place) {
            int key = oldest(where);
            for (int k = 0; k < sizes[where]; k++) {
                if (k == place) {
                    return key;
                }
                key = newer[key];
            }
            return NO_SUCH;
        }

        int placeOf(int where, int key) {
            int other = oldest(where);
            for (int k = 0; k < sizes[where]; k++) {
                if (other == key) {
                    return k;
                }
                other = newer[other];
            }
            return NO_SUCH;
        }

        /** The oldest key that isn't pinned, or NO_SUCH. */
        int oldestLoose(int where, int[] pinned) {
            int key = oldest(where);
            for (int k = 0; k < sizes[where]; k++) {
                if (pinned[key] == 0) {
                    return key;
                }
                key = newer[key];
            }
            return NO_SUCH;
        }
    }

    /**
     * Keys of what went, each at its number from the first on, the later ones over the earlier ones.
     * One trim lets each key go once at most, so there is room for all victims.
     */
    private static final class Leavers {
        final int[] ring = new int[KEYS];
        int total;

        void copyFrom(Leavers other) {
            System.arraycopy(other.ring, 0, ring, 0, KEYS);
            total = other.total;
        }

        void add(int key) {
            ring[Math.floorMod(total, KEYS)] = key;
            total++;
        }

        int at(int number) {
            return ring[Math.floorMod(number, KEYS)];
        }
    }

    private static final class Book {
        final int[] keys = new int[BOOK_ROWS];
        final int[] wheres = new int[BOOK_ROWS];
        int size;

        void copyFrom(Book other) {
            System.arraycopy(other.keys, 0, keys, 0, BOOK_ROWS);
            System.arraycopy(other.wheres, 0, wheres, 0, BOOK_ROWS);
            size = other.size;
        }
    }

    private static final class Trace {
        final int[] kinds = new int[CLAUSES];
        final int[] keys = new int[CLAUSES];
        final int[] weights = new int[CLAUSES];
        int size;
    }

    /** The text, and how a trace is read from it. */
    private static final class Text {
        final int[] signs = new int[TEXT_ROOM];
        int length;
        /** The place of the sign that is read next. */
        private int at;

        /** The fault, or NO_SUCH if there is none; the trace counts by none only. */
        int readInto(Trace trace) {
            at = 0;
            for (int i = 0; i < CLAUSES; i++) {
                if (!readClause(trace, i)) {
                    return at;
                }
                trace.size = i + 1;
                if (at >= length) {
                    return NO_SUCH;
                }
                if (i == CLAUSES - 1 || !skip(';', ';')) {
                    return at;
                }
            }
            return at;
        }

        /** If not, the place is that of the sign at fault. */
        private boolean readClause(Trace trace, int i) {
            int kind = next();
            if (kind != 'g' && kind != 'p' && kind != 'x') {
                return false;
            }
            at++;
            int space = next() - 'a';
            if (!skip('a', 'd')) {
                return false;
            }
            int number = next() - '0';
            if (!skip('0', '9')) {
                return false;
            }
            int digit = next() - '0';
            if (skip('0', '9')) {
                number = number * 10 + digit;
            }
            trace.kinds[i] = kind;
            trace.keys[i] = space * NUMBERS + number;
            return kind != 'p' || readWeight(trace, i);
        }

        private boolean readWeight(Trace trace, int i) {
            if (!skip('=', '=')) {
                return false;
            }
            trace.weights[i] = next() - '0';
            return skip('1', '9');
        }

        /** Goes on by one sign, if it is one of these. */
        private boolean skip(int least, int most) {
            int sign = next();
            if (sign < least || sign > most) {
                return false;
            }
            at++;
            return true;
        }

        /** The next sign, or one that fits nowhere at the end. */
        private int next() {
            return at < length ? signs[at] : NO_SUCH;
        }
    }

    private static final class Tape {
        final long[] items = new long[TAPE_ROOM];
        int sort = EMPTY;
        int length;

        void become(int newSort, int newLength) {
            for (int i = 0; i < TAPE_ROOM; i++) {
                items[i] = 0;
            }
            sort = newSort;
            length = newLength;
        }

        long asItem(long v) {
            switch (sort) {
                case BYTES:
                    return (byte) v;
                case SHORTS:
                    return (short) v;
                case INTS:
                    return (int) v;
                case LONGS:
                    return v;
                default:
                    return v != 0 ? 1 : 0;
            }
        }

        /** Told without adding, as the sum may be beyond an int. */
        boolean hasRange(int from, int n) {
            return from >= 0 && n >= 0 && n <= length && from <= length - n;
        }
    }
}
