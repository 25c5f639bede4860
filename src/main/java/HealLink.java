import java.util.Arrays;
import java.util.NoSuchElementException;

/** One link: a sender, a receiver and two lossy channels, told, driven and searched through. */
public final class HealLink {
    public static final int NONE = -1;

    private static final int ENDLESS = -2;
    private static final int UNKNOWN = -3;

    private static final int SEND = 0;
    private static final int ARRIVE = 1;
    private static final int COME = 2;
    private static final int LOSE_PACKET = 3;
    private static final int LOSE_LETTER = 4;

    private static final int GOOD = 1;
    private static final int GHOST = 2;
    private static final int DOUBLED = 3;
    private static final int GOES_ON = 4;
    private static final int SKIPPED = 5;

    private static final int CAPACITY = 0;
    private static final int LABELS = 1;
    private static final int ACKS = 2;
    private static final int COPIES = 3;

    private static final int MOST_STATES = 6000;
    private static final int MOST_ACTS = 10;
    private static final int MOST_QUEUED = 30;
    private static final int MOST_SCRIPT_ACTS = 600;
    private static final int MOST_TURNS = 1000000;

    private final int[] counts = new int[8];
    private final Row finished = new Row();
    private final Row delivered = new Row();
    private final Acts acts = new Acts();
    private final Steps plan = new Steps();
    private final Tape tape = new Tape();
    private final Survey survey = new Survey();
    private Rules rules = new Rules(1, 3, 3, 2);
    private long state = rules.atFirst();
    private int queueBits;
    private int queueSize;
    private boolean kept;
    private long keptState;
    private int keptBits;
    private int keptSize;

    public HealLink() {
    }

    public int set(int what, int v) {
        if (!Rules.allows(what, v)) {
            return NONE;
        }
        int old = rules.limit(what);
        rules = rules.with(what, v);
        state = rules.atFirst();
        queueBits = 0;
        queueSize = 0;
        kept = false;
        Arrays.fill(counts, 0);
        finished.empty();
        delivered.empty();
        survey.forget();
        return old;
    }

    public boolean sender(int label, int value, int acks, boolean taken) {
        if (!rules.hasKind(label, value) || acks < 0 || acks >= rules.acks) {
            return false;
        }
        state = Rules.withSender(state, label, value, acks, taken);
        return true;
    }

    public int last(int label) {
        if (!rules.hasLabel(label)) {
            return NONE;
        }
        int old = Rules.lastOf(state);
        state = Rules.withLast(state, label);
        return old;
    }

    public int seen(int label, int value, int n) {
        if (!rules.hasKind(label, value) || n < 0 || n >= rules.copies) {
            return NONE;
        }
        return put(Rules.seenAt(2 * label + value), n);
    }

    public int packets(int label, int value, int n) {
        if (!rules.hasKind(label, value) || n < 0) {
            return NONE;
        }
        int at = Rules.packetsAt(2 * label + value);
        int others = Rules.packetsIn(state) - Rules.digit(state, at);
        return n > rules.capacity - others ? NONE : put(at, n);
    }

    public int letters(int label, int n) {
        if (!rules.hasLabel(label) || n < 0) {
            return NONE;
        }
        int at = Rules.lettersAt(label);
        int others = Rules.lettersIn(state) - Rules.digit(state, at);
        return n > rules.capacity - others ? NONE : put(at, n);
    }

    public int queue(int bits, int n) {
        if (n < 1 || n > 20 || queueSize + n > MOST_QUEUED) {
            return NONE;
        }
        queueBits |= (bits & ((1 << n) - 1)) << queueSize;
        queueSize += n;
        return queueSize;
    }

    public int act(int what, int label, int value) {
        if (!rules.offers(state, what, label, value)) {
            return NONE;
        }
        return perform(Acts.codeOf(what, label, value));
    }

    public int run(int n, int seed, boolean lose) {
        if (n < 1 || n > 200) {
            return NONE;
        }
        int before = badOnes();
        int x = seed;
        for (int i = 0; i < n; i++) {
            x = x * 1103515245 + 12345;
            acts.list(rules, state, false);
            int many = lose ? acts.size : acts.withoutLose;
            if (many > 0) {
                perform(acts.codes.at((x >>> 8) % many));
            }
        }
        return badOnes() - before;
    }

    public int of(int what) {
        switch (what) {
            case 0: return Rules.labelOf(state);
            case 1: return Rules.valueOf(state);
            case 2: return Rules.acksOf(state);
            case 3: return Rules.takenOf(state) ? 1 : 0;
            case 4: return Rules.lastOf(state);
            case 5: return Rules.packetsIn(state);
            case 6: return Rules.lettersIn(state);
            case 7: return queueSize;
            case 8: return rules.capacity;
            case 9: return rules.labels;
            case 10: return rules.acks;
            case 11: return rules.copies;
            case 12: return tape.length;
            default: return NONE;
        }
    }

    public int kind(int label, int value, int what) throws NoSuchElementException {
        if (what == 2 && rules.hasLabel(label)) {
            return Rules.digit(state, Rules.lettersAt(label));
        }
        if (what < 0 || what > 1 || !rules.hasKind(label, value)) {
            throw new NoSuchElementException("no such kind");
        }
        int kind = 2 * label + value;
        return Rules.digit(state, what == 0 ? Rules.seenAt(kind) : Rules.packetsAt(kind));
    }

    public int queued(int i) throws NoSuchElementException {
        if (i < 0 || i >= queueSize) {
            throw new NoSuchElementException("not in the queue");
        }
        return queueBits >>> i & 1;
    }

    public int count(int what) {
        return what < 0 || what >= counts.length ? NONE : counts[what];
    }

    public int possible(int i, int what) {
        if (what < 0 || what > 2) {
            return NONE;
        }
        acts.list(rules, state, false);
        if (i == NONE) {
            return acts.size;
        }
        return i < 0 || i >= acts.size ? NONE : Acts.part(acts.codes.at(i), what);
    }

    public int reached() {
        return survey.covers(rules, state) ? survey.atlas.size : UNKNOWN;
    }

    public int worst() {
        return survey.covers(rules, state) ? survey.greatest() : UNKNOWN;
    }

    public int soonest() {
        return survey.covers(rules, state) ? survey.actsToBad() : UNKNOWN;
    }

    public int way(int i, int what) {
        if (!survey.covers(rules, state)) {
            return UNKNOWN;
        }
        if (i < 0 || what < 0 || what > 2) {
            return -2;
        }
        int code = survey.codeOnWay(rules, i);
        return code == NONE ? -2 : Acts.part(code, what);
    }

    public int barren() {
        return survey.covers(rules, state) ? survey.withoutGood() : UNKNOWN;
    }

    public int steps() {
        return survey.covers(rules, state) ? survey.actsToGood() : UNKNOWN;
    }

    public long odds(int k) {
        if (k < 1 || k > 40) {
            return NONE;
        }
        return survey.covers(rules, state) ? survey.oddsBits(k) : UNKNOWN;
    }

    public int enough() {
        return survey.leastAcks(rules, state);
    }

    public int every(int what) {
        if (what < 0 || what > 9) {
            return NONE;
        }
        return rules.allStates() > MOST_STATES ? UNKNOWN : survey.censusOf(rules).at(what);
    }

    public int struck() {
        return finished.size + delivered.size - 2 * finished.commonWith(delivered);
    }

    public int row(int what, int i) {
        if (what < 0 || what > 1) {
            return NONE;
        }
        Row row = what == 0 ? finished : delivered;
        return i == NONE ? row.size : row.valueAt(i);
    }

    public int feed(long a, long b, long c) {
        if (!tape.hasRoom(24)) {
            return NONE;
        }
        tape.append(a);
        tape.append(b);
        tape.append(c);
        return tape.length;
    }

    public int end(int n) {
        if (n < 0 || n > tape.length) {
            return NONE;
        }
        tape.length = n;
        return n;
    }

    public int script() {
        int bytes = tape.length;
        tape.length = 0;
        if (bytes > Tape.MOST_READ) {
            return NONE;
        }
        int fault = tape.read(bytes, rules.labels, plan);
        return fault == NONE ? carryOut() : -2 - fault;
    }

    public boolean image() {
        kept = true;
        keptState = state;
        keptBits = queueBits;
        keptSize = queueSize;
        return true;
    }

    public boolean back() {
        if (!kept) {
            return false;
        }
        state = keptState;
        queueBits = keptBits;
        queueSize = keptSize;
        return true;
    }

    private int put(int at, int n) {
        int old = Rules.digit(state, at);
        state = Rules.withDigit(state, at, n);
        return old;
    }

    private int badOnes() {
        return counts[2] + counts[3] + counts[4];
    }

    /** Does an act that is possible, counts what comes of it and answers what act() does. */
    private int perform(int code) {
        int told = queueSize > 0 ? queueBits & 1 : 0;
        int valueBefore = Rules.valueOf(state);
        long next = rules.after(state, Acts.withTold(code, told));
        int outcome = Rules.outcomeOf(next);
        state = next & Rules.STATE;
        counts[0]++;
        if (outcome == GOOD || outcome == GHOST || outcome == DOUBLED) {
            counts[outcome]++;
            delivered.add(Acts.kindOf(code) & 1);
        } else if (outcome == GOES_ON || outcome == SKIPPED) {
            counts[5]++;
            counts[4] += outcome == SKIPPED ? 1 : 0;
            finished.add(valueBefore);
            takeFromQueue();
        }
        counts[6] += (next & Rules.LOST_PACKET) != 0 ? 1 : 0;
        counts[7] += (next & Rules.LOST_LETTER) != 0 ? 1 : 0;
        return outcome;
    }

    private void takeFromQueue() {
        if (queueSize > 0) {
            queueBits >>>= 1;
            queueSize--;
        }
    }

    /** Does the plan step by step and answers how many acts were done. */
    private int carryOut() {
        int before = counts[0];
        plan.rewind();
        boolean goesOn = true;
        for (int turn = 0; turn < MOST_TURNS && goesOn; turn++) {
            int done = counts[0] - before;
            int step = plan.next(done);
            goesOn = done < MOST_SCRIPT_ACTS && step != NONE
                && doStep(step, MOST_SCRIPT_ACTS - done);
        }
        return counts[0] - before;
    }

    /** Does a step, by no more than so many acts, and answers whether it was possible. */
    private boolean doStep(int step, int most) {
        int what = plan.what.at(step);
        int label = plan.first.at(step);
        int value = plan.second.at(step);
        if (what == Steps.CLEAR) {
            int kind = rules.firstPacket(state);
            for (int i = 0; i < label && i < most && kind != NONE; i++) {
                perform(Acts.codeOf(LOSE_PACKET, kind >> 1, kind & 1));
                kind = rules.firstPacket(state);
            }
            return true;
        }
        if (!rules.offers(state, what, label, value)) {
            return false;
        }
        perform(Acts.codeOf(what, label, value));
        return true;
    }

    /** A row of numbers: beyond its ends there is 0, and nothing can be put there. */
    private static final class Cells {
        private final int[] cells;

        Cells(int size) {
            cells = new int[Math.max(size, 0)];
        }

        int at(int i) {
            return i >= 0 && i < cells.length ? cells[i] : 0;
        }

        void put(int i, int n) {
            if (i >= 0 && i < cells.length) {
                cells[i] = n;
            }
        }

        void fill(int n) {
            Arrays.fill(cells, n);
        }
    }

    /**
     * What the user sets, and how states change by it. A state is one long; its bits are laid out
     * so that the order of the longs is the order of the states that EVERY asks for. A kind is
     * 2 * LABEL + VALUE.
     */
    private static final class Rules {
        static final long STATE = (1L << 49) - 1;
        static final long LOST_PACKET = 1L << 56;
        static final long LOST_LETTER = 1L << 57;

        private static final int OUTCOME_AT = 52;
        private static final int KIND_AT = 46;
        private static final int LABEL_AT = 47;
        private static final int ACKS_AT = 43;
        private static final int TAKEN_AT = 42;
        private static final int LAST_AT = 40;
        private static final int SEEN_AT = 24;
        private static final int PACKETS_AT = 8;
        private static final long SENDER_BITS = 127L << TAKEN_AT;
        private static final long LAST_BITS = 3L << LAST_AT;
        private static final long SEEN_BITS = 0xFFFFL << SEEN_AT;

        final int capacity;
        final int labels;
        final int acks;
        final int copies;

        Rules(int capacity, int labels, int acks, int copies) {
            this.capacity = capacity;
            this.labels = labels;
            this.acks = acks;
            this.copies = copies;
        }

        static boolean allows(int what, int v) {
            switch (what) {
                case CAPACITY: return v >= 1 && v <= 2;
                case LABELS: return v >= 2 && v <= 4;
                case ACKS: return v >= 1 && v <= 7;
                case COPIES: return v >= 1 && v <= 4;
                default: return false;
            }
        }

        int limit(int what) {
            switch (what) {
                case CAPACITY: return capacity;
                case LABELS: return labels;
                case ACKS: return acks;
                default: return copies;
            }
        }

        Rules with(int what, int v) {
            return new Rules(what == CAPACITY ? v : capacity, what == LABELS ? v : labels,
                what == ACKS ? v : acks, what == COPIES ? v : copies);
        }

        long atFirst() {
            return (long) (labels - 1) << LAST_AT;
        }

        boolean hasLabel(int label) {
            return label >= 0 && label < labels;
        }

        boolean hasKind(int label, int value) {
            return hasLabel(label) && (value == 0 || value == 1);
        }

        static int seenAt(int kind) {
            return SEEN_AT + 2 * (7 - kind);
        }

        static int packetsAt(int kind) {
            return PACKETS_AT + 2 * (7 - kind);
        }

        static int lettersAt(int label) {
            return 2 * (3 - label);
        }

        static int digit(long state, int at) {
            return (int) (state >>> at) & 3;
        }

        static long withDigit(long state, int at, int n) {
            return state & ~(3L << at) | (long) n << at;
        }

        static int labelOf(long state) {
            return (int) (state >>> LABEL_AT) & 3;
        }

        static int valueOf(long state) {
            return (int) (state >>> KIND_AT) & 1;
        }

        static int acksOf(long state) {
            return (int) (state >>> ACKS_AT) & 7;
        }

        static boolean takenOf(long state) {
            return (state >>> TAKEN_AT & 1) != 0;
        }

        static int lastOf(long state) {
            return (int) (state >>> LAST_AT) & 3;
        }

        // The sum of digits of two bits: so many low bits, and twice so many high ones.
        static int seenIn(long state) {
            long digits = state >>> SEEN_AT;
            return Long.bitCount(digits & 0x5555) + 2 * Long.bitCount(digits & 0xAAAA);
        }

        static int packetsIn(long state) {
            long digits = state >>> PACKETS_AT;
            return Long.bitCount(digits & 0x5555) + 2 * Long.bitCount(digits & 0xAAAA);
        }

        static int lettersIn(long state) {
            return Long.bitCount(state & 0x55) + 2 * Long.bitCount(state & 0xAA);
        }

        static long withSender(long state, int label, int value, int acks, boolean taken) {
            return state & ~SENDER_BITS | (long) label << LABEL_AT | (long) value << KIND_AT
                | (long) acks << ACKS_AT | (taken ? 1L << TAKEN_AT : 0);
        }

        static long withoutAcks(long state) {
            return state & ~(7L << ACKS_AT);
        }

        static long withLast(long state, int label) {
            return state & ~LAST_BITS | (long) label << LAST_AT;
        }

        static int outcomeOf(long next) {
            return (int) (next >>> OUTCOME_AT) & 7;
        }

        boolean goesOnBy(long state, int label) {
            return labelOf(state) == label && acksOf(state) + 1 >= acks;
        }

        boolean offers(long state, int which, int label, int value) {
            switch (which) {
                case SEND:
                    return true;
                case ARRIVE:
                case LOSE_PACKET:
                    return hasKind(label, value) && digit(state, packetsAt(2 * label + value)) > 0;
                case COME:
                case LOSE_LETTER:
                    return hasLabel(label) && digit(state, lettersAt(label)) > 0;
                default:
                    return false;
            }
        }

        /** The kind of the first packet that is there, NONE if there is none. */
        int firstPacket(long state) {
            for (int kind = 0; kind < 2 * labels; kind++) {
                if (digit(state, packetsAt(kind)) > 0) {
                    return kind;
                }
            }
            return NONE;
        }

        /** The state after a possible act, with its outcome and what it lost in bits above it. */
        long after(long state, int code) {
            int kind = Acts.kindOf(code);
            switch (Acts.whichOf(code)) {
                case SEND:
                    return afterSend(state);
                case ARRIVE:
                    return afterArrive(state, kind);
                case COME:
                    return afterCome(state, kind >> 1, Acts.toldOf(code));
                case LOSE_PACKET:
                    return state - (1L << packetsAt(kind)) | LOST_PACKET;
                default:
                    return state - (1L << lettersAt(kind >> 1)) | LOST_LETTER;
            }
        }

        private long afterSend(long state) {
            if (packetsIn(state) >= capacity) {
                return state | LOST_PACKET;
            }
            return state + (1L << packetsAt((int) (state >>> KIND_AT) & 7));
        }

        private long afterArrive(long state, int kind) {
            long next = state - (1L << packetsAt(kind));
            int label = kind >> 1;
            if (label != lastOf(state)) {
                if (digit(state, seenAt(kind)) + 1 < copies) {
                    next += 1L << seenAt(kind);
                } else {
                    next = afterDelivery(next, kind);
                }
            }
            if (lettersIn(state) >= capacity) {
                return next | LOST_LETTER;
            }
            return next + (1L << lettersAt(label));
        }

        private static long afterDelivery(long state, int kind) {
            long next = withLast(state & ~SEEN_BITS, kind >> 1);
            if (kind != ((int) (state >>> KIND_AT) & 7)) {
                return next | (long) GHOST << OUTCOME_AT;
            }
            if (takenOf(state)) {
                return next | (long) DOUBLED << OUTCOME_AT;
            }
            return next | 1L << TAKEN_AT | (long) GOOD << OUTCOME_AT;
        }

        private long afterCome(long state, int label, int told) {
            long next = state - (1L << lettersAt(label));
            if (labelOf(state) != label) {
                return next;
            }
            if (!goesOnBy(state, label)) {
                return next + (1L << ACKS_AT);
            }
            int following = label + 1 < labels ? label + 1 : 0;
            long outcome = takenOf(state) ? GOES_ON : SKIPPED;
            return withSender(next, following, told, 0, false) | outcome << OUTCOME_AT;
        }

        /** How many states there can be. */
        long allStates() {
            long all = 4L * labels * labels * acks;
            for (int i = 0; i < 2 * labels; i++) {
                all *= copies;
            }
            return all * fillings(2 * labels) * fillings(labels);
        }

        private long fillings(int kinds) {
            return 1 + kinds + (capacity > 1 ? kinds * (kinds + 1) / 2 : 0);
        }

        /** The next state in the order of EVERY, NONE behind the last one. */
        long following(long state) {
            long next = state;
            for (int label = labels - 1; label >= 0; label--) {
                if (lettersIn(next) < capacity) {
                    return next + (1L << lettersAt(label));
                }
                next = withDigit(next, lettersAt(label), 0);
            }
            for (int kind = 2 * labels - 1; kind >= 0; kind--) {
                if (packetsIn(next) < capacity) {
                    return next + (1L << packetsAt(kind));
                }
                next = withDigit(next, packetsAt(kind), 0);
            }
            for (int kind = 2 * labels - 1; kind >= 0; kind--) {
                if (digit(next, seenAt(kind)) + 1 < copies) {
                    return next + (1L << seenAt(kind));
                }
                next = withDigit(next, seenAt(kind), 0);
            }
            return lastOf(next) + 1 < labels ? next + (1L << LAST_AT)
                : followingSender(next & ~LAST_BITS);
        }

        private long followingSender(long state) {
            if (!takenOf(state)) {
                return state + (1L << TAKEN_AT);
            }
            long next = state & ~(1L << TAKEN_AT);
            if (acksOf(next) + 1 < acks) {
                return next + (1L << ACKS_AT);
            }
            next = withoutAcks(next);
            // A VALUE of 1 carries over into the LABEL, whose bits are the next ones.
            return valueOf(next) == 0 || labelOf(next) + 1 < labels ? next + (1L << KIND_AT) : NONE;
        }
    }

    /** The acts of a state in order, each one an int: which, kind, and the next VALUE as told. */
    private static final class Acts {
        final Cells codes = new Cells(MOST_ACTS);
        int size;
        int withoutLose;

        static int codeOf(int which, int label, int value) {
            if (which == SEND) {
                return SEND;
            }
            return which | label << 4 | (which == ARRIVE || which == LOSE_PACKET ? value << 3 : 0);
        }

        static int withTold(int code, int told) {
            return code | told << 6;
        }

        static int whichOf(int code) {
            return code & 7;
        }

        static int kindOf(int code) {
            return code >>> 3 & 7;
        }

        static int toldOf(int code) {
            return code >>> 6 & 1;
        }

        /** What possible() and way() tell of an act. */
        static int part(int code, int what) {
            int which = whichOf(code);
            if (what == 0) {
                return which + 100 * toldOf(code);
            }
            if (what == 1) {
                return which == SEND ? NONE : kindOf(code) >> 1;
            }
            return which == ARRIVE || which == LOSE_PACKET ? kindOf(code) & 1 : NONE;
        }

        /** With told, an act by which the sender goes on is there twice, by VALUE 0 and 1. */
        void list(Rules rules, long state, boolean told) {
            size = 0;
            add(SEND);
            addPackets(ARRIVE, rules, state);
            for (int label = 0; label < rules.labels; label++) {
                if (Rules.digit(state, Rules.lettersAt(label)) > 0) {
                    add(COME | label << 4);
                    if (told && rules.goesOnBy(state, label)) {
                        add(withTold(COME | label << 4, 1));
                    }
                }
            }
            withoutLose = size;
            addPackets(LOSE_PACKET, rules, state);
            for (int label = 0; label < rules.labels; label++) {
                if (Rules.digit(state, Rules.lettersAt(label)) > 0) {
                    add(LOSE_LETTER | label << 4);
                }
            }
        }

        private void addPackets(int which, Rules rules, long state) {
            for (int kind = 0; kind < 2 * rules.labels; kind++) {
                if (Rules.digit(state, Rules.packetsAt(kind)) > 0) {
                    add(which | kind << 3);
                }
            }
        }

        private void add(int code) {
            if (size < MOST_ACTS) {
                codes.put(size, code);
                size++;
            }
        }
    }

    /** States by their numbers, and of each state an edge for each of its acts, in order. */
    private static final class Atlas {
        static final int BAD_MARK = 1;
        static final int GOOD_MARK = 2;

        private static final int SLOTS = 16384;
        private static final long SPREAD = 0x9E3779B97F4A7C15L;

        // Of state s the edges are those from first.at(s) on, each 4 * target + marks.
        final Cells first = new Cells(MOST_STATES + 1);
        final Acts acts = new Acts();
        int size;
        boolean known;
        private final Cells edges = new Cells(MOST_STATES * MOST_ACTS);
        private final Cells slots = new Cells(SLOTS);
        private final long[] states = new long[MOST_STATES];

        /** The states reached from this one. */
        void chart(Rules rules, long from) {
            clear();
            numberOf(from);
            known = expandAll(rules);
        }

        /** All states that there can be, which must not be too many. */
        void chartAll(Rules rules) {
            clear();
            long state = 0;
            for (int i = 0; i < MOST_STATES && state != NONE; i++) {
                numberOf(state);
                state = rules.following(state);
            }
            known = expandAll(rules);
        }

        long stateAt(int s) {
            return s >= 0 && s < states.length ? states[s] : 0;
        }

        int targetOf(int e) {
            return edges.at(e) >> 2;
        }

        boolean hasMark(int e, int mark) {
            return (edges.at(e) & mark) != 0;
        }

        private void clear() {
            size = 0;
            first.put(0, 0);
            slots.fill(0);
        }

        /** Whether all that is reached could be numbered. */
        private boolean expandAll(Rules rules) {
            int e = 0;
            for (int s = 0; s < size && s < MOST_STATES; s++) {
                acts.list(rules, stateAt(s), true);
                for (int i = 0; i < acts.size && i < MOST_ACTS; i++) {
                    long next = rules.after(stateAt(s), acts.codes.at(i));
                    int target = numberOf(next & Rules.STATE);
                    if (target == NONE) {
                        return false;
                    }
                    edges.put(e, 4 * target + markOf(Rules.outcomeOf(next)));
                    e++;
                }
                first.put(s + 1, e);
            }
            return true;
        }

        private static int markOf(int outcome) {
            if (outcome == GOOD) {
                return GOOD_MARK;
            }
            return outcome == GHOST || outcome == DOUBLED || outcome == SKIPPED ? BAD_MARK : 0;
        }

        /** The number of a state, a new one if it has none yet; NONE if that would be too many. */
        private int numberOf(long state) {
            int slot = (int) (state * SPREAD >>> 50);
            for (int tries = 0; tries < SLOTS; tries++) {
                int number = slots.at(slot) - 1;
                if (number < 0) {
                    return append(state, slot);
                }
                if (stateAt(number) == state) {
                    return number;
                }
                slot = slot + 1 & SLOTS - 1;
            }
            return NONE;
        }

        private int append(long state, int slot) {
            if (size < 0 || size >= states.length) {
                return NONE;
            }
            states[size] = state;
            size++;
            slots.put(slot, size);
            return size - 1;
        }
    }

    /** WORST of each state: strong components, each closed only when all behind it are. */
    private static final class Depths {
        private static final int OPEN = -3;

        final Cells worst = new Cells(MOST_STATES);
        private final Cells met = new Cells(MOST_STATES);
        private final Cells low = new Cells(MOST_STATES);
        private final Cells stack = new Cells(MOST_STATES);
        private final Cells path = new Cells(MOST_STATES);
        private final Cells nextEdge = new Cells(MOST_STATES);
        private int clock;
        private int height;

        void measure(Atlas atlas) {
            met.fill(0);
            worst.fill(OPEN);
            clock = 0;
            height = 0;
            for (int s = 0; s < atlas.size; s++) {
                if (met.at(s) == 0) {
                    visit(atlas, s);
                }
            }
        }

        private void visit(Atlas atlas, int root) {
            int depth = 0;
            enter(atlas, root, depth);
            // Each turn uses up an edge or leaves a state.
            int turns = atlas.first.at(atlas.size) + atlas.size;
            for (int turn = 0; turn < turns && depth >= 0; turn++) {
                int s = path.at(depth);
                int e = nextEdge.at(depth);
                if (e < atlas.first.at(s + 1)) {
                    nextEdge.put(depth, e + 1);
                    int target = atlas.targetOf(e);
                    if (met.at(target) == 0) {
                        depth++;
                        enter(atlas, target, depth);
                    } else if (worst.at(target) == OPEN) {
                        lower(s, met.at(target));
                    }
                } else {
                    closeAt(atlas, s);
                    depth--;
                    if (depth >= 0) {
                        lower(path.at(depth), low.at(s));
                    }
                }
            }
        }

        private void lower(int s, int to) {
            low.put(s, Math.min(low.at(s), to));
        }

        private void enter(Atlas atlas, int s, int depth) {
            clock++;
            met.put(s, clock);
            low.put(s, clock);
            stack.put(height, s);
            height++;
            path.put(depth, s);
            nextEdge.put(depth, atlas.first.at(s));
        }

        /** If s is the eldest of its component, that is all that stands on the stack from s on. */
        private void closeAt(Atlas atlas, int s) {
            if (low.at(s) != met.at(s)) {
                return;
            }
            int most = 0;
            int from = height;
            boolean reachedRoot = false;
            while (from > 0 && !reachedRoot) {
                from--;
                most = greater(most, greatestOf(atlas, stack.at(from)));
                reachedRoot = stack.at(from) == s;
            }
            for (int i = from; i < height; i++) {
                worst.put(stack.at(i), most);
            }
            height = from;
        }

        /** By the state's own edges; a BAD one that stays in its component can come again. */
        private int greatestOf(Atlas atlas, int s) {
            int most = 0;
            for (int e = atlas.first.at(s); e < atlas.first.at(s + 1); e++) {
                int behind = worst.at(atlas.targetOf(e));
                boolean bad = atlas.hasMark(e, Atlas.BAD_MARK);
                if (behind == OPEN) {
                    most = greater(most, bad ? ENDLESS : 0);
                } else {
                    most = greater(most, bad && behind != ENDLESS ? behind + 1 : behind);
                }
            }
            return most;
        }

        private static int greater(int a, int b) {
            if (a == ENDLESS || b == ENDLESS) {
                return ENDLESS;
            }
            return a > b ? a : b;
        }

        /** The first state that has the greatest WORST. */
        int hardest(int size) {
            int best = 0;
            for (int s = 1; s < size && worst.at(best) != ENDLESS; s++) {
                if (worst.at(s) == ENDLESS || worst.at(s) > worst.at(best)) {
                    best = s;
                }
            }
            return best;
        }
    }

    /** Of each state by how many acts there can be something BAD, or GOOD; 0: never. */
    private static final class Ranges {
        final Cells toBad = new Cells(MOST_STATES);
        final Cells toGood = new Cells(MOST_STATES);
        private final Cells line = new Cells(MOST_STATES);
        private final Cells firstBack = new Cells(MOST_STATES + 1);
        private final Cells sources = new Cells(MOST_STATES * MOST_ACTS);

        void measure(Atlas atlas) {
            turnRound(atlas);
            spread(atlas, Atlas.BAD_MARK, toBad);
            spread(atlas, Atlas.GOOD_MARK, toGood);
        }

        /** Of state s the sources of its edges are those from firstBack.at(s) on. */
        private void turnRound(Atlas atlas) {
            int all = atlas.first.at(atlas.size);
            firstBack.fill(0);
            for (int e = 0; e < all; e++) {
                int target = atlas.targetOf(e);
                firstBack.put(target, firstBack.at(target) + 1);
            }
            for (int s = 1; s <= atlas.size; s++) {
                firstBack.put(s, firstBack.at(s) + firstBack.at(s - 1));
            }
            for (int s = 0; s < atlas.size; s++) {
                for (int e = atlas.first.at(s); e < atlas.first.at(s + 1); e++) {
                    int target = atlas.targetOf(e);
                    int place = firstBack.at(target) - 1;
                    firstBack.put(target, place);
                    sources.put(place, s);
                }
            }
        }

        private void spread(Atlas atlas, int mark, Cells to) {
            int tail = 0;
            for (int s = 0; s < atlas.size; s++) {
                to.put(s, canDo(atlas, s, mark) ? 1 : 0);
                if (to.at(s) == 1) {
                    line.put(tail, s);
                    tail++;
                }
            }
            for (int head = 0; head < tail && head < MOST_STATES; head++) {
                int s = line.at(head);
                for (int b = firstBack.at(s); b < firstBack.at(s + 1); b++) {
                    int source = sources.at(b);
                    if (to.at(source) == 0) {
                        to.put(source, to.at(s) + 1);
                        line.put(tail, source);
                        tail++;
                    }
                }
            }
        }

        private static boolean canDo(Atlas atlas, int s, int mark) {
            for (int e = atlas.first.at(s); e < atlas.first.at(s + 1); e++) {
                if (atlas.hasMark(e, mark)) {
                    return true;
                }
            }
            return false;
        }
    }

    /** How likely it is that nothing BAD comes of so many acts. */
    private static final class Chances {
        private static final long TWO_TO_52 = 1L << 52;

        private double[] now = new double[MOST_STATES];
        private double[] then = new double[MOST_STATES];

        long bitsAfter(Atlas atlas, int k) {
            Arrays.fill(now, 0.0);
            now[0] = 1.0;
            for (int i = 0; i < k; i++) {
                Arrays.fill(then, 0.0);
                move(atlas);
                double[] row = now;
                now = then;
                then = row;
            }
            double all = 0.0;
            for (int s = 0; s < atlas.size && s < now.length; s++) {
                all += now[s];
            }
            return bitsOf(all);
        }

        private void move(Atlas atlas) {
            for (int s = 0; s < atlas.size && s < now.length; s++) {
                int many = atlas.first.at(s + 1) - atlas.first.at(s);
                if (now[s] != 0.0 && many > 0) {
                    pass(atlas, s, now[s] / (double) many);
                }
            }
        }

        private void pass(Atlas atlas, int s, double q) {
            for (int e = atlas.first.at(s); e < atlas.first.at(s + 1); e++) {
                int target = atlas.targetOf(e);
                if (!atlas.hasMark(e, Atlas.BAD_MARK) && target >= 0 && target < then.length) {
                    then[target] += q;
                }
            }
        }

        /** The bits of a double that is not negative: doublings and halvings lose nothing. */
        private static long bitsOf(double d) {
            double rest = d;
            int exponent = 0;
            for (int i = 0; i < 1100 && rest >= 2.0; i++) {
                rest /= 2.0;
                exponent++;
            }
            for (int i = 0; i < 1022 && rest < 1.0 && exponent > -1022; i++) {
                rest *= 2.0;
                exponent--;
            }
            if (rest < 1.0) {
                return (long) (rest * (double) TWO_TO_52);
            }
            return (long) (exponent + 1023) << 52 | (long) ((rest - 1.0) * (double) TWO_TO_52);
        }
    }

    /**
     * The answers about reached states, each found once as long as nothing changes. All its rows are
     * made with the link and used again: a row made by a call would count as often as calls may come.
     */
    private static final class Survey {
        final Atlas atlas = new Atlas();
        private final Chances chances = new Chances();
        private final Depths depths = new Depths();
        private final Ranges ranges = new Ranges();
        private final Cells census = new Cells(10);
        private boolean counted;
        private long charted = NONE;
        private boolean measured;
        private boolean ranged;
        private long tried = NONE;
        private int enoughAcks;

        void forget() {
            counted = false;
            charted = NONE;
            tried = NONE;
        }

        /** Charts what is reached from the state, and answers whether it is not UNKNOWN. */
        boolean covers(Rules rules, long state) {
            if (charted != state) {
                atlas.chart(rules, state);
                charted = state;
                measured = false;
                ranged = false;
            }
            return atlas.known;
        }

        int greatest() {
            if (!measured) {
                depths.measure(atlas);
                measured = true;
            }
            return depths.worst.at(0);
        }

        private void range() {
            if (!ranged) {
                ranges.measure(atlas);
                ranged = true;
            }
        }

        int actsToBad() {
            range();
            return ranges.toBad.at(0) == 0 ? NONE : ranges.toBad.at(0);
        }

        int actsToGood() {
            range();
            return ranges.toGood.at(0) == 0 ? NONE : ranges.toGood.at(0);
        }

        int withoutGood() {
            range();
            int many = 0;
            for (int s = 0; s < atlas.size; s++) {
                many += ranges.toGood.at(s) == 0 ? 1 : 0;
            }
            return many;
        }

        long oddsBits(int k) {
            return chances.bitsAfter(atlas, k);
        }

        /** The i-th act on the way to something BAD, NONE if the way is not so long. */
        int codeOnWay(Rules rules, int i) {
            range();
            if (i >= ranges.toBad.at(0)) {
                return NONE;
            }
            int s = 0;
            for (int step = 0; step < i; step++) {
                s = atlas.targetOf(soonestEdge(s));
            }
            atlas.acts.list(rules, atlas.stateAt(s), true);
            return atlas.acts.codes.at(soonestEdge(s) - atlas.first.at(s));
        }

        private int soonestEdge(int s) {
            int left = ranges.toBad.at(s);
            for (int e = atlas.first.at(s); e < atlas.first.at(s + 1); e++) {
                boolean leads = left == 1 ? atlas.hasMark(e, Atlas.BAD_MARK)
                    : ranges.toBad.at(atlas.targetOf(e)) == left - 1;
                if (leads) {
                    return e;
                }
            }
            return atlas.first.at(s);
        }

        int leastAcks(Rules rules, long state) {
            if (tried == state) {
                return enoughAcks;
            }
            tried = state;
            charted = NONE;
            enoughAcks = NONE;
            for (int acks = 1; acks <= 7 && enoughAcks == NONE; acks++) {
                long from = Rules.acksOf(state) < acks ? state : Rules.withoutAcks(state);
                atlas.chart(rules.with(ACKS, acks), from);
                if (!atlas.known) {
                    enoughAcks = UNKNOWN;
                } else {
                    depths.measure(atlas);
                    enoughAcks = depths.worst.at(0) == ENDLESS ? NONE : acks;
                }
            }
            return enoughAcks;
        }

        /** The answers of every(), if there are not too many states. */
        Cells censusOf(Rules rules) {
            if (counted) {
                return census;
            }
            counted = true;
            charted = NONE;
            atlas.chartAll(rules);
            depths.measure(atlas);
            int hardest = depths.hardest(atlas.size);
            long state = atlas.stateAt(hardest);
            census.put(0, depths.worst.at(hardest));
            census.put(1, atlas.size);
            census.put(2, Rules.labelOf(state));
            census.put(3, Rules.valueOf(state));
            census.put(4, Rules.acksOf(state));
            census.put(5, Rules.takenOf(state) ? 1 : 0);
            census.put(6, Rules.lastOf(state));
            census.put(7, Rules.packetsIn(state));
            census.put(8, Rules.lettersIn(state));
            census.put(9, Rules.seenIn(state));
            return census;
        }
    }

    /** The latest 40 of some VALUES: bits of a long, the eldest the highest. */
    private static final class Row {
        private static final int MOST = 40;

        int size;
        private long bits;
        private final Cells line = new Cells(MOST + 1);

        void empty() {
            size = 0;
            bits = 0;
        }

        void add(int value) {
            bits = bits << 1 | value;
            size = Math.min(size + 1, MOST);
        }

        int valueAt(int i) {
            return i < 0 || i >= size ? NONE : (int) (bits >>> size - 1 - i) & 1;
        }

        /** How long the longest row is that both rows leave when some of each are struck out. */
        int commonWith(Row other) {
            line.fill(0);
            for (int i = 0; i < size; i++) {
                int corner = 0;
                for (int j = 1; j <= other.size; j++) {
                    int above = line.at(j);
                    line.put(j, valueAt(i) == other.valueAt(j - 1) ? corner + 1
                        : Math.max(above, line.at(j - 1)));
                    corner = above;
                }
            }
            return line.at(other.size);
        }
    }

    /** The steps of a script in a row, where AGAIN and CLOSE tell each other's place. */
    private static final class Steps {
        static final int CLEAR = 5;
        static final int AGAIN = 6;
        static final int CLOSE = 7;
        static final int MOST_OPEN = 4;

        // The shortest are again0[]; with two steps in nine bytes: 240 bytes hold 53 of them.
        private static final int MOST = 64;

        final Cells what = new Cells(MOST);
        final Cells first = new Cells(MOST);
        final Cells second = new Cells(MOST);
        private final Cells opened = new Cells(MOST_OPEN);
        private final Cells left = new Cells(MOST_OPEN);
        private final Cells doneBefore = new Cells(MOST_OPEN);
        private int size;
        private int depth;
        private int at;

        void empty() {
            size = 0;
            depth = 0;
        }

        boolean mayOpen() {
            return depth < MOST_OPEN;
        }

        boolean mayClose() {
            return depth > 0;
        }

        void add(int step, int one, int two) {
            if (size < MOST) {
                what.put(size, step);
                first.put(size, one);
                second.put(size, two);
                size++;
            }
        }

        void open(int times) {
            if (mayOpen()) {
                opened.put(depth, size);
                depth++;
                add(AGAIN, times, size);
            }
        }

        void close() {
            if (mayClose()) {
                depth--;
                second.put(opened.at(depth), size);
                add(CLOSE, opened.at(depth), 0);
            }
        }

        void rewind() {
            at = 0;
            depth = 0;
        }

        /** The next step that is no AGAIN or CLOSE, NONE behind the last one. */
        int next(int done) {
            for (int turn = 0; turn < MOST_TURNS && at >= 0 && at < size; turn++) {
                if (what.at(at) == AGAIN) {
                    enter(done);
                } else if (what.at(at) == CLOSE) {
                    leave(done);
                } else {
                    at++;
                    return at - 1;
                }
            }
            return NONE;
        }

        private void enter(int done) {
            if (first.at(at) > 0 && mayOpen()) {
                left.put(depth, first.at(at));
                doneBefore.put(depth, done);
                depth++;
                at++;
            } else {
                at = second.at(at) + 1;
            }
        }

        private void leave(int done) {
            int top = depth - 1;
            // A round without an act changed nothing, so the rounds left would not either.
            if (top >= 0 && left.at(top) > 1 && done > doneBefore.at(top)) {
                left.put(top, left.at(top) - 1);
                doneBefore.put(top, done);
                at = first.at(at) + 1;
            } else {
                depth = Math.max(top, 0);
                at++;
            }
        }
    }

    /** The bytes fed, and how they are read as a script. */
    private static final class Tape {
        static final int MOST_READ = 240;

        private static final int MOST = 264;
        private static final int BLANK = 32;
        private static final int MISPLACED = 1;
        private static final int NUMBER = 2;
        private static final int TOO_DEEP = 3;

        int length;
        private final Cells bytes = new Cells(MOST);
        private int stop;
        private int at;
        private int fault;

        boolean hasRoom(int more) {
            return length + more <= MOST;
        }

        void append(long eight) {
            for (int shift = 56; shift >= 0 && length < MOST; shift -= 8) {
                bytes.put(length, (int) (eight >>> shift) & 255);
                length++;
            }
        }

        /** Reads the first bytes into steps; the first fault, 8 * place + kind, NONE if none. */
        int read(int many, int labels, Steps steps) {
            stop = Math.min(many, MOST);
            at = 0;
            fault = NONE;
            steps.empty();
            skipBlanks();
            for (int turn = 0; turn < MOST && at < stop && fault == NONE; turn++) {
                if (peek() == ']') {
                    readClose(steps);
                } else {
                    readStep(labels, steps);
                }
                skipBlanks();
            }
            if (steps.mayClose()) {
                blame(at, MISPLACED);
            }
            return fault;
        }

        private void readClose(Steps steps) {
            if (!steps.mayClose()) {
                blame(at, MISPLACED);
                return;
            }
            steps.close();
            at++;
            expect(';');
        }

        private void readStep(int labels, Steps steps) {
            int start = at;
            int step = readWord();
            switch (step) {
                case SEND:
                    steps.add(step, 0, 0);
                    break;
                case ARRIVE:
                case LOSE_PACKET:
                    steps.add(step, readNumber(0, labels - 1), readNumber(0, 1));
                    break;
                case COME:
                case LOSE_LETTER:
                    steps.add(step, readNumber(0, labels - 1), 0);
                    break;
                case Steps.CLEAR:
                    steps.add(step, readNumber(1, 9), 0);
                    break;
                case Steps.AGAIN:
                    readAgain(start, steps);
                    return;
                default:
                    blame(start, MISPLACED);
                    break;
            }
            expect(';');
        }

        private void readAgain(int start, Steps steps) {
            if (!steps.mayOpen()) {
                blame(start, TOO_DEEP);
                return;
            }
            int times = readNumber(0, 30);
            expect('[');
            steps.open(times);
        }

        /** The step that the word at this place means, NONE if none does. */
        private int readWord() {
            int start = at;
            while (at < stop && peek() >= 'a' && peek() <= 'z') {
                at++;
            }
            if (isWord(start, "send")) {
                return SEND;
            }
            if (isWord(start, "arrive")) {
                return ARRIVE;
            }
            if (isWord(start, "come")) {
                return COME;
            }
            if (isWord(start, "lose")) {
                return LOSE_PACKET;
            }
            if (isWord(start, "drop")) {
                return LOSE_LETTER;
            }
            if (isWord(start, "clear")) {
                return Steps.CLEAR;
            }
            return isWord(start, "again") ? Steps.AGAIN : NONE;
        }

        private boolean isWord(int start, String word) {
            if (at - start != word.length()) {
                return false;
            }
            for (int i = 0; i < word.length(); i++) {
                if (bytes.at(start + i) != word.charAt(i)) {
                    return false;
                }
            }
            return true;
        }

        private int readNumber(int least, int most) {
            skipBlanks();
            int start = at;
            int number = 0;
            while (at < stop && peek() >= '0' && peek() <= '9') {
                number = Math.min(10 * number + peek() - '0', 1000);
                at++;
            }
            if (at == start) {
                blame(at, MISPLACED);
            } else if (at - start > 2 || number < least || number > most) {
                blame(start, NUMBER);
            }
            return number;
        }

        private void expect(char sign) {
            skipBlanks();
            if (peek() == sign) {
                at++;
            } else {
                blame(at, MISPLACED);
            }
        }

        private void skipBlanks() {
            while (at < stop && peek() == BLANK) {
                at++;
            }
        }

        private int peek() {
            return at < stop ? bytes.at(at) : NONE;
        }

        /** Reading goes on along the text, so what is blamed first is the first fault. */
        private void blame(int place, int kind) {
            if (fault == NONE) {
                fault = 8 * place + kind;
            }
        }
    }
}
