/** Receive queues of a network card; the document ../shared/DOC.md says what each call promises. */
public final class RxQueues {
    public static final int NONE = -1;

    private static final int FLOWS = 24;
    private static final int QUEUES = 4;
    private static final int ENTRIES = 16;
    private static final int RULES = 6;
    private static final int BATCH = 16;
    private static final int KEPT_SEGMENTS = 12;
    private static final int KEPT_ACTS = 8;
    private static final int IMAGES = 2;
    private static final int LAST_TIME = 99999;
    private static final int LAST_PLACE = 1000000000;
    private static final int LOST_ONE = 4;

    private static final int BAD_NUMBER = -1;
    private static final int NO_SUCH = -2;
    private static final int NOT_NOW = -4;
    private static final int NO_ROOM = -5;

    private static final int ROOM = 0;
    private static final int MANY = 1;
    private static final int OLD = 2;
    private static final int LONGEST = 3;
    private static final int HEAD = 4;
    private static final int PAGE = 5;
    private static final int FOLLOWS = 6;
    private static final int SLOW = 7;
    private static final int FULL = 8;
    private static final int TERMS = 9;
    private static final int[] LEAST_TERMS = {1, 1, 1, 1, 0, 64, 0, 0, 1};
    private static final int[] FIRST_TERMS = {16, 8, 40, 4000, 40, 1024, 0, 0, 12};
    private static final int[] MOST_TERMS = {32, 32, 999, 9999, 64, 4096, 1, 256, 32};

    private static final int KEY_ACT = 0;
    private static final int MASK_ACT = 1;
    private static final int FLOW_ACT = 2;
    private static final int TABLE_ACT = 3;
    private static final int BALANCE_ACT = 4;
    private static final int STEER_ACT = 5;
    private static final int FREE_ACT = 6;
    private static final int TERMS_ACT = 7;
    private static final int PACKET_ACT = 8;
    private static final int BURST_ACT = 9;
    private static final int GAP_ACT = 10;
    private static final int TICK_ACT = 11;
    private static final int POLL_ACT = 12;
    private static final int READS_ACT = 13;
    private static final int RETIRE_ACT = 14;

    private final State now = new State();
    private final History history = new History();
    private final State[] images = new State[IMAGES];
    // counts of refused calls by the number told, its sign left out
    private final int[] refused = new int[6];
    private int latestRefusal;
    private State paper;
    // filled anew by each question that needs something of every flow
    private final int[] ofEachFlow = new int[FLOWS];

    public RxQueues() {
    }

    // ---- acts ----

    public int key(int a, int b, int c) {
        if (!isByte(c)) {
            return refuse(BAD_NUMBER);
        }
        begin(KEY_ACT);
        now.key.put(a, b, c);
        return 0;
    }

    public int mask(int v) {
        if (v < 0 || v > 31) {
            return refuse(BAD_NUMBER);
        }
        begin(MASK_ACT);
        int was = now.key.counting;
        now.key.counting = v;
        return was;
    }

    public int flow(int from, int to, int port, int other, int sort) {
        if (!areFields(from, to, port, other, sort)) {
            return refuse(BAD_NUMBER);
        }
        int known = now.flows.numberOf(from, to, port, other, sort);
        if (known != NONE) {
            latestRefusal = 0;
            return known;
        }
        if (now.flows.number >= FLOWS) {
            return refuse(NO_ROOM);
        }
        begin(FLOW_ACT);
        return now.flows.enter(from, to, port, other, sort);
    }

    public int table(int entry, int queue) {
        if (!isEntry(entry) || !isQueue(queue)) {
            return refuse(BAD_NUMBER);
        }
        begin(TABLE_ACT);
        int was = now.table.queueOf[entry];
        now.table.queueOf[entry] = queue;
        return was;
    }

    public int balance() {
        begin(BALANCE_ACT);
        int moved = now.table.deal();
        now.table.clearHits();
        return moved;
    }

    public int reads(int flow, int queue) {
        if (queue != NONE && !isQueue(queue)) {
            return refuse(BAD_NUMBER);
        }
        if (!isFlow(flow)) {
            return refuse(NO_SUCH);
        }
        begin(READS_ACT);
        int was = now.flows.get(Flows.READER, flow);
        now.flows.put(Flows.READER, flow, queue);
        return was;
    }

    public int retire(int queue) {
        if (!isQueue(queue)) {
            return refuse(BAD_NUMBER);
        }
        begin(RETIRE_ACT);
        now.flows.dropRulesTo(queue);
        return now.table.emptyOut(queue);
    }

    public int steer(int flow, int queue) {
        if (!isQueue(queue)) {
            return refuse(BAD_NUMBER);
        }
        if (!isFlow(flow)) {
            return refuse(NO_SUCH);
        }
        begin(STEER_ACT);
        return now.flows.putRule(flow, queue, now.time);
    }

    public int free(int flow) {
        if (!isFlow(flow) || now.flows.get(Flows.RULE, flow) == NONE) {
            return refuse(NO_SUCH);
        }
        begin(FREE_ACT);
        int was = now.flows.get(Flows.RULE, flow);
        now.flows.dropRule(flow);
        return was;
    }

    public int terms(int what, int v) {
        if (what < 0 || what >= TERMS || v < LEAST_TERMS[what] || v > MOST_TERMS[what]) {
            return refuse(BAD_NUMBER);
        }
        begin(TERMS_ACT);
        int was = now.terms[what];
        now.terms[what] = v;
        return was;
    }

    public int packet(int flow, int size, boolean pressed) {
        if (!isSize(size)) {
            return refuse(BAD_NUMBER);
        }
        if (!isFlow(flow)) {
            return refuse(NO_SUCH);
        }
        if (now.flows.get(Flows.NEXT, flow) + size > LAST_PLACE) {
            return refuse(NOT_NOW);
        }
        begin(PACKET_ACT);
        return now.arrive(flow, size, pressed);
    }

    public int burst(int flow, int n, int size) {
        if (n < 1 || n > 20 || !isSize(size)) {
            return refuse(BAD_NUMBER);
        }
        if (!isFlow(flow)) {
            return refuse(NO_SUCH);
        }
        if (!burstFits(flow, n, size)) {
            return refuse(NOT_NOW);
        }
        begin(BURST_ACT);
        int kept = 0;
        int f = flow;
        for (int i = 0; i < n; i++) {
            if (now.arrive(f, size, false) != LOST_ONE) {
                kept++;
            }
            f = f + 1 < now.flows.number ? f + 1 : 0;
        }
        return kept;
    }

    public int gap(int flow, int n) {
        if (n < 1 || n > 9999) {
            return refuse(BAD_NUMBER);
        }
        if (!isFlow(flow)) {
            return refuse(NO_SUCH);
        }
        if (now.flows.get(Flows.NEXT, flow) + n > LAST_PLACE) {
            return refuse(NOT_NOW);
        }
        begin(GAP_ACT);
        now.flows.add(Flows.NEXT, flow, n);
        return now.flows.get(Flows.NEXT, flow);
    }

    public int tick(int n) {
        if (n < 1 || n > 100) {
            return refuse(BAD_NUMBER);
        }
        if (now.time + n > LAST_TIME) {
            return refuse(NOT_NOW);
        }
        begin(TICK_ACT);
        long before = now.segments.totals[Segments.SEGMENTS];
        for (int i = 0; i < n; i++) {
            now.passTick();
        }
        return (int) (now.segments.totals[Segments.SEGMENTS] - before);
    }

    public int poll(int queue) {
        if (!isQueue(queue)) {
            return refuse(BAD_NUMBER);
        }
        if (now.queues[queue].number == 0) {
            return refuse(NOT_NOW);
        }
        begin(POLL_ACT);
        return now.takeBatch(queue);
    }

    public int undo() {
        if (history.number == 0) {
            return refuse(NOT_NOW);
        }
        latestRefusal = 0;
        return history.takeBack(now);
    }

    public int image(int k) {
        if (k < 0 || k >= IMAGES) {
            return refuse(BAD_NUMBER);
        }
        latestRefusal = 0;
        images[k] = copied(images[k], now);
        return now.time;
    }

    public int back(int k) {
        if (k < 0 || k >= IMAGES) {
            return refuse(BAD_NUMBER);
        }
        if (images[k] == null) {
            return refuse(NOT_NOW);
        }
        latestRefusal = 0;
        now.become(images[k]);
        history.number = 0;
        return now.time;
    }

    // ---- what stands ----

    public int hash(int from, int to, int port, int other, int sort) {
        if (!areFields(from, to, port, other, sort)) {
            return 0;
        }
        return now.key.hashFields(from, to, port, other, sort);
    }

    public int hashOf(int flow) {
        return isFlow(flow) ? now.hashFlow(flow) : 0;
    }

    public int of(int flow, int what) {
        if (!isFlow(flow) || what < 0 || what >= Flows.ROWS) {
            return NONE;
        }
        if (what == Flows.ENTRY) {
            return now.entryOf(flow);
        }
        if (what == Flows.WISH) {
            return now.wishOf(flow);
        }
        return now.flows.get(what, flow);
    }

    public int find(int from, int to, int port, int other, int sort) {
        return now.flows.numberOf(from, to, port, other, sort);
    }

    public int missing(int flow, int what) {
        if (!isFlow(flow)) {
            return NONE;
        }
        switch (what) {
            case 0:
                return now.missingBytes(flow);
            case 1:
                return now.widestHole(flow);
            default:
                return NONE;
        }
    }

    public int entry(int entry, int what) {
        if (!isEntry(entry)) {
            return NONE;
        }
        switch (what) {
            case 0:
                return now.table.queueOf[entry];
            case 1:
                return now.table.hits[entry];
            case 2:
                return now.flowsOfEntry(entry);
            default:
                return NONE;
        }
    }

    public int queue(int queue, int what) {
        if (!isQueue(queue)) {
            return NONE;
        }
        switch (what) {
            case 6:
                return now.flowsWishing(queue);
            case 9:
                return now.table.entriesOf(queue);
            default:
                return now.queues[queue].tell(what);
        }
    }

    public int waits(int queue, int i, int what) {
        if (!isQueue(queue) || i < 0 || i >= now.queues[queue].number || what < 0 || what >= Queue.ROW) {
            return NONE;
        }
        return now.queues[queue].at(i, what);
    }

    public int segment(int ago, int what) {
        if (ago < 0 || ago >= now.segments.kept || what < 0 || what >= Segments.ROW) {
            return NONE;
        }
        return now.segments.lately(ago, what);
    }

    public long given(int what) {
        return what < 0 || what >= Segments.TOTALS ? NONE : now.segments.totals[what];
    }

    public int window(int i) {
        return i < 0 || i > 40 ? 0 : now.key.bitsFrom(i);
    }

    public boolean isBothWays() {
        return now.key.hashesBothWaysAlike();
    }

    public int reach() {
        return Integer.bitCount(now.key.entriesInReach());
    }

    public int aim(int flow, int entry) {
        if (!isFlow(flow) || !isEntry(entry)) {
            return NONE;
        }
        // a hash is the xor of what each field gives, so only the port's part has to be exchanged
        int others = now.hashFlow(flow) ^ now.key.part(Flows.PORT, now.flows.get(Flows.PORT, flow));
        for (int port = 0; port < 256; port++) {
            if (entryOfHash(others ^ now.key.part(Flows.PORT, port)) == entry) {
                return port;
            }
        }
        return NONE;
    }

    public int spread(int what) {
        if (what < 0 || what > 1 || now.flows.number == 0) {
            return NONE;
        }
        for (int f = 0; f < now.flows.number; f++) {
            ofEachFlow[f] = now.foldedFields(f);
        }
        int best = 0;
        int most = 0;
        for (int b = 0; b < 256; b++) {
            int unlike = unlikeEntries(b);
            if (unlike > most) {
                most = unlike;
                best = b;
            }
        }
        return what == 0 ? best : most;
    }

    public long ratio(int what) {
        long segments = now.segments.totals[Segments.SEGMENTS];
        if (what < 0 || what > 3 || segments == 0) {
            return NONE;
        }
        long packets = now.segments.totals[Segments.PACKETS];
        long upper = what < 2 ? now.segments.totals[Segments.BYTES] : packets;
        long lower = what < 2 ? packets : segments;
        long wanted = what % 2 == 0 ? upper : lower;
        return wanted / commonDivisor(upper, lower);
    }

    public int alike() {
        for (int f = 0; f < now.flows.number; f++) {
            ofEachFlow[f] = now.hashFlow(f);
        }
        for (int first = 0; first < now.flows.number; first++) {
            for (int second = first + 1; second < now.flows.number; second++) {
                if (ofEachFlow[second] == ofEachFlow[first]) {
                    return 100 * first + second;
                }
            }
        }
        return NONE;
    }

    public int load(int what) {
        switch (what) {
            case 0:
                return now.table.mostHits();
            case 1:
                return now.table.leastHits();
            case 2:
                Table onPaper = paperOfNow().table;
                onPaper.deal();
                return onPaper.mostHits();
            default:
                return NONE;
        }
    }

    // ---- on paper ----

    public int would(int n, int what) {
        if (n < 1 || n > 100 || what < 0 || what > 3 || now.time + n > LAST_TIME) {
            return NONE;
        }
        State then = paperOfNow();
        for (int i = 0; i < n; i++) {
            then.passTick();
        }
        switch (what) {
            case 0:
                return then.packetsWaiting();
            case 1:
                return (int) (then.segments.totals[Segments.SEGMENTS] - now.segments.totals[Segments.SEGMENTS]);
            case 2:
                return then.callsInAll() - now.callsInAll();
            default:
                return then.flows.ruleNumber();
        }
    }

    public int drain() {
        State then = paperOfNow();
        for (int ticks = 0; ticks <= 200; ticks++) {
            if (then.packetsWaiting() == 0) {
                return ticks;
            }
            if (then.time >= LAST_TIME) {
                return NONE;
            }
            then.passTick();
        }
        return NONE;
    }

    public int nextCall(int queue) {
        if (!isQueue(queue) || now.queues[queue].number == 0) {
            return NONE;
        }
        State then = paperOfNow();
        int callsSoFar = now.queues[queue].calls;
        for (int ticks = 1; ticks <= LAST_TIME - now.time; ticks++) {
            then.passTick();
            if (then.queues[queue].calls != callsSoFar) {
                return ticks;
            }
        }
        return NONE;
    }

    public int joined(int queue, int what) {
        if (!isQueue(queue) || what < 0 || what > 2) {
            return NONE;
        }
        State then = paperOfNow();
        if (what != 0) {
            then.terms[LONGEST] = what == 1 ? MOST_TERMS[LONGEST] : LEAST_TERMS[LONGEST];
        }
        for (int taken = 0; taken < now.queues[queue].number; taken += BATCH) {
            then.takeBatch(queue);
        }
        return (int) (then.segments.totals[Segments.SEGMENTS] - now.segments.totals[Segments.SEGMENTS]);
    }

    // ---- told of all ----

    public int count(int what) {
        if (what >= 10 && what <= 13) {
            return refusals(what);
        }
        if (what >= 14 && what < 14 + TERMS) {
            return now.terms[what - 14];
        }
        switch (what) {
            case 0:
                return now.time;
            case 1:
                return now.flows.number;
            case 2:
                return now.flows.ruleNumber();
            case 3:
                return now.key.counting;
            case 4:
                return now.packetsWaiting();
            case 5:
                return now.flows.sum(Flows.CAME);
            case 6:
                return now.flows.sum(Flows.LOST);
            case 7:
                return now.flows.sum(Flows.STUCK);
            case 8:
                return now.callsInAll();
            case 9:
                return history.number;
            case 23:
                return now.followed;
            case 24:
                return now.flows.sum(Flows.MARKED);
            default:
                return NONE;
        }
    }

    public int status() {
        return latestRefusal;
    }

    // ---- helpers ----

    private int refuse(int why) {
        latestRefusal = why;
        refused[-why]++;
        return why;
    }

    private int refusals(int what) {
        switch (what) {
            case 10:
                return refused[-BAD_NUMBER];
            case 11:
                return refused[-NO_SUCH];
            case 12:
                return refused[-NOT_NOW];
            default:
                return refused[-NO_ROOM];
        }
    }

    private void begin(int act) {
        latestRefusal = 0;
        history.keep(act, now);
    }

    private State paperOfNow() {
        paper = copied(paper, now);
        return paper;
    }

    // a room is made at its first use alone, so that an object of few calls stays small
    private static State copied(State room, State from) {
        State into = room == null ? new State() : room;
        into.become(from);
        return into;
    }

    private boolean isFlow(int flow) {
        return flow >= 0 && flow < now.flows.number;
    }

    private static boolean isQueue(int queue) {
        return queue >= 0 && queue < QUEUES;
    }

    private static boolean isEntry(int entry) {
        return entry >= 0 && entry < ENTRIES;
    }

    private static boolean isByte(int v) {
        return v >= 0 && v <= 255;
    }

    private static boolean isSize(int size) {
        return size >= 1 && size <= 1500;
    }

    private static boolean areFields(int from, int to, int port, int other, int sort) {
        return isByte(from) && isByte(to) && isByte(port) && isByte(other) && (sort == 0 || sort == 1);
    }

    private static int entryOfHash(int hash) {
        return hash & (ENTRIES - 1);
    }

    private boolean burstFits(int flow, int n, int size) {
        int number = now.flows.number;
        for (int steps = 0; steps < n && steps < number; steps++) {
            int f = flow + steps < number ? flow + steps : flow + steps - number;
            int rounds = (n - steps + number - 1) / number;
            if (now.flows.get(Flows.NEXT, f) + rounds * size > LAST_PLACE) {
                return false;
            }
        }
        return true;
    }

    private int unlikeEntries(int b) {
        int seen = 0;
        for (int f = 0; f < now.flows.number; f++) {
            seen |= 1 << entryByRepeated(b, ofEachFlow[f]);
        }
        return Integer.bitCount(seen);
    }

    // a window of a key that is one byte nine times ends with that byte turned left by the window's first bit
    private static int entryByRepeated(int b, int folded) {
        int twice = (b << 8) | b;
        int all = 0;
        for (int j = 0; j < 8; j++) {
            if (((folded << j) & 128) != 0) {
                all ^= twice >> (8 - j);
            }
        }
        return entryOfHash(all);
    }

    private static long commonDivisor(long upper, long lower) {
        long a = upper;
        long b = lower;
        // Euclid's way needs fewer than 100 steps for any two longs
        for (int i = 0; i < 100 && b != 0; i++) {
            long rest = a % b;
            a = b;
            b = rest;
        }
        return a > 0 ? a : 1;
    }

    /** The key with the fields that count, and what they make of fields. */
    private static final class Key {
        private static final int WINDOWS = 41;

        int counting = 31;
        // 32 bits of the key from each bit on: all that hashes ask of a key
        private final int[] windows = new int[WINDOWS];

        void put(int a, int b, int c) {
            long both = ((long) a << 32) | (b & 0xFFFFFFFFL);
            for (int i = 0; i <= 32; i++) {
                windows[i] = (int) (both >>> (32 - i));
            }
            for (int i = 33; i < WINDOWS; i++) {
                windows[i] = (b << (i - 32)) | (c >>> (40 - i));
            }
        }

        void copyFrom(Key from) {
            System.arraycopy(from.windows, 0, windows, 0, WINDOWS);
            counting = from.counting;
        }

        /** Is only asked for bits 0 .. 40. */
        int bitsFrom(int i) {
            return windows[i];
        }

        boolean counts(int field) {
            return ((counting >> field) & 1) == 1;
        }

        /** What one field gives to a hash. */
        int part(int field, int v) {
            if (!counts(field)) {
                return 0;
            }
            int all = 0;
            for (int j = 0; j < 8; j++) {
                if (((v << j) & 128) != 0) {
                    all ^= windows[8 * field + j];
                }
            }
            return all;
        }

        int hashFields(int from, int to, int port, int other, int sort) {
            return part(Flows.FROM, from) ^ part(Flows.TO, to) ^ part(Flows.PORT, port)
                    ^ part(Flows.OTHER, other) ^ part(Flows.SORT, sort);
        }

        /** A hash is linear over bits: it's enough to look at each bit alone. */
        boolean hashesBothWaysAlike() {
            for (int bit = 1; bit < 256; bit <<= 1) {
                if (part(Flows.FROM, bit) != part(Flows.TO, bit)
                        || part(Flows.PORT, bit) != part(Flows.OTHER, bit)) {
                    return false;
                }
            }
            return true;
        }

        /** Entries that fields can hit, as bits: all xors of the entries that single bits hit. */
        int entriesInReach() {
            int reached = 1;
            for (int i = 0; i < 40; i++) {
                // of SORT only the lowest bit can be 1
                if (counts(i / 8) && (i < 32 || i == 39)) {
                    reached = withStep(reached, entryOfHash(windows[i]));
                }
            }
            return reached;
        }

        private static int withStep(int reached, int step) {
            int all = reached;
            for (int e = 0; e < ENTRIES; e++) {
                if (((reached >> e) & 1) == 1) {
                    all |= 1 << (e ^ step);
                }
            }
            return all;
        }
    }

    /** The flows with their rules and readers; rows are numbered as of() tells them. */
    private static final class Flows {
        static final int FROM = 0;
        static final int TO = 1;
        static final int PORT = 2;
        static final int OTHER = 3;
        static final int SORT = 4;
        static final int ENTRY = 5;
        static final int WISH = 6;
        static final int WHERE = 7;
        static final int WAITING = 8;
        static final int NEXT = 9;
        static final int CAME = 10;
        static final int LOST = 11;
        static final int STUCK = 12;
        static final int RULE = 13;
        static final int USED = 14;
        static final int GIVEN_END = 15;
        static final int GIVEN = 16;
        static final int READER = 17;
        static final int MARKED = 18;
        static final int GIVEN_BYTES = 19;
        static final int ROWS = 20;

        int number;
        // ENTRY and WISH follow from other things and are never kept here
        private final int[] cells = new int[ROWS * FLOWS];

        int get(int row, int flow) {
            return cells[row * FLOWS + flow];
        }

        void put(int row, int flow, int v) {
            cells[row * FLOWS + flow] = v;
        }

        void add(int row, int flow, int v) {
            cells[row * FLOWS + flow] += v;
        }

        void copyFrom(Flows from) {
            number = from.number;
            System.arraycopy(from.cells, 0, cells, 0, cells.length);
        }

        int sum(int row) {
            int all = 0;
            for (int f = 0; f < number; f++) {
                all += get(row, f);
            }
            return all;
        }

        int numberOf(int from, int to, int port, int other, int sort) {
            for (int f = 0; f < number; f++) {
                if (get(FROM, f) == from && get(TO, f) == to && get(PORT, f) == port
                        && get(OTHER, f) == other && get(SORT, f) == sort) {
                    return f;
                }
            }
            return NONE;
        }

        int enter(int from, int to, int port, int other, int sort) {
            // cells of a flow that did not come yet, or whose coming was undone, are all 0
            int f = number;
            put(FROM, f, from);
            put(TO, f, to);
            put(PORT, f, port);
            put(OTHER, f, other);
            put(SORT, f, sort);
            put(WHERE, f, NONE);
            put(RULE, f, NONE);
            put(USED, f, NONE);
            put(READER, f, NONE);
            number++;
            return f;
        }

        void nowWaits(int flow, int queue) {
            put(WHERE, flow, queue);
            add(WAITING, flow, 1);
        }

        void nowTaken(int flow) {
            add(WAITING, flow, -1);
            if (get(WAITING, flow) == 0) {
                put(WHERE, flow, NONE);
            }
        }

        int ruleNumber() {
            int all = 0;
            for (int f = 0; f < number; f++) {
                if (get(RULE, f) != NONE) {
                    all++;
                }
            }
            return all;
        }

        /** Answers the flow whose rule went for it, or NONE. */
        int putRule(int flow, int queue, int time) {
            int gone = NONE;
            if (get(RULE, flow) == NONE && ruleNumber() >= RULES) {
                gone = leastUsed();
                dropRule(gone);
            }
            put(RULE, flow, queue);
            put(USED, flow, time);
            return gone;
        }

        /** Is only asked while there are rules. */
        private int leastUsed() {
            int least = NONE;
            for (int f = 0; f < number; f++) {
                if (get(RULE, f) != NONE && (least == NONE || get(USED, f) < get(USED, least))) {
                    least = f;
                }
            }
            return least;
        }

        void dropRule(int flow) {
            if (flow != NONE) {
                put(RULE, flow, NONE);
                put(USED, flow, NONE);
            }
        }

        void dropRulesTo(int queue) {
            for (int f = 0; f < number; f++) {
                if (get(RULE, f) == queue) {
                    dropRule(f);
                }
            }
        }

        void dropOldRules(int time, int old) {
            for (int f = 0; f < number; f++) {
                if (get(RULE, f) != NONE && get(USED, f) + old < time) {
                    dropRule(f);
                }
            }
        }
    }

    /** Of each entry its queue and its hits. */
    private static final class Table {
        final int[] queueOf = new int[ENTRIES];
        final int[] hits = new int[ENTRIES];
        // both are made anew by each use, and no part of what stands
        private final int[] order = new int[ENTRIES];
        private final int[] sums = new int[QUEUES];

        Table() {
            for (int e = 0; e < ENTRIES; e++) {
                queueOf[e] = e % QUEUES;
            }
        }

        void copyFrom(Table from) {
            System.arraycopy(from.queueOf, 0, queueOf, 0, ENTRIES);
            System.arraycopy(from.hits, 0, hits, 0, ENTRIES);
        }

        void clearHits() {
            for (int e = 0; e < ENTRIES; e++) {
                hits[e] = 0;
            }
        }

        int entriesOf(int queue) {
            int bits = 0;
            for (int e = 0; e < ENTRIES; e++) {
                if (queueOf[e] == queue) {
                    bits |= 1 << e;
                }
            }
            return bits;
        }

        int mostHits() {
            sumHits();
            int most = sums[0];
            for (int q = 1; q < QUEUES; q++) {
                most = Math.max(most, sums[q]);
            }
            return most;
        }

        int leastHits() {
            sumHits();
            return sums[leastQueue(NONE)];
        }

        /** Deals all entries anew, hits stay: how many have another queue then. */
        int deal() {
            orderByHits();
            clearSums();
            int moved = 0;
            for (int i = 0; i < ENTRIES; i++) {
                int e = order[i];
                int queue = leastQueue(NONE);
                if (queueOf[e] != queue) {
                    moved++;
                }
                queueOf[e] = queue;
                sums[queue] += hits[e];
            }
            return moved;
        }

        /** Entries of a queue go to the others: how many there were. */
        int emptyOut(int queue) {
            orderByHits();
            sumHits();
            int moved = 0;
            for (int i = 0; i < ENTRIES; i++) {
                int e = order[i];
                if (queueOf[e] == queue) {
                    int next = leastQueue(queue);
                    queueOf[e] = next;
                    sums[next] += hits[e];
                    moved++;
                }
            }
            return moved;
        }

        private void orderByHits() {
            for (int e = 0; e < ENTRIES; e++) {
                int at = e;
                for (; at > 0 && hits[order[at - 1]] < hits[e]; at--) {
                    order[at] = order[at - 1];
                }
                order[at] = e;
            }
        }

        private void clearSums() {
            for (int q = 0; q < QUEUES; q++) {
                sums[q] = 0;
            }
        }

        private void sumHits() {
            clearSums();
            for (int e = 0; e < ENTRIES; e++) {
                sums[queueOf[e]] += hits[e];
            }
        }

        private int leastQueue(int but) {
            int least = but == 0 ? 1 : 0;
            for (int q = least + 1; q < QUEUES; q++) {
                if (q != but && sums[q] < sums[least]) {
                    least = q;
                }
            }
            return least;
        }
    }

    /** Packets that wait, and when the queue calls. */
    private static final class Queue {
        static final int FLOW = 0;
        static final int PLACE = 1;
        static final int LONG = 2;
        static final int PRESSED = 3;
        static final int ROW = 4;
        private static final int MOST = 32;
        private static final int LONGEST_DELAY = 16;

        int number;
        int calls;
        int lost;
        private int delay = 4;
        private int since = NONE;
        private int taken;
        private int pace;
        private int fresh;
        private final int[] cells = new int[ROW * MOST];

        void copyFrom(Queue from) {
            number = from.number;
            calls = from.calls;
            lost = from.lost;
            delay = from.delay;
            since = from.since;
            taken = from.taken;
            pace = from.pace;
            fresh = from.fresh;
            System.arraycopy(from.cells, 0, cells, 0, ROW * number);
        }

        int at(int i, int what) {
            return cells[ROW * i + what];
        }

        int tell(int what) {
            switch (what) {
                case 0:
                    return number;
                case 1:
                    return delay;
                case 2:
                    return since;
                case 3:
                    return calls;
                case 4:
                    return taken;
                case 5:
                    return lost;
                case 7:
                    return pace;
                case 8:
                    return fresh;
                default:
                    return NONE;
            }
        }

        /** Is only asked while fewer than ROOM packets wait, and ROOM is MOST at most. */
        void append(int flow, int place, int size, boolean pressed, int time) {
            if (number == 0) {
                since = time;
            }
            int first = ROW * number;
            cells[first + FLOW] = flow;
            cells[first + PLACE] = place;
            cells[first + LONG] = size;
            cells[first + PRESSED] = pressed ? 1 : 0;
            number++;
            fresh++;
        }

        void keepPace() {
            pace += (16 * fresh - pace) / 8;
            fresh = 0;
        }

        boolean isDue(int time, int many, int slow) {
            return number > 0 && (number >= many || pace < slow || time - since >= delay);
        }

        /** By a call the first n packets go. */
        void takeAway(int n, int time) {
            calls++;
            taken += n;
            number -= n;
            System.arraycopy(cells, ROW * n, cells, 0, ROW * number);
            since = number > 0 ? time : NONE;
        }

        void learn(int batch, int many) {
            if (batch >= many) {
                delay = Math.min(LONGEST_DELAY, 2 * delay);
            } else if (batch <= 2) {
                delay = Math.max(1, delay / 2);
            }
        }
    }

    /** Segments: the open ones of a batch, the last ones given, and what was given in all. */
    private static final class Segments {
        static final int SEGMENTS = 0;
        static final int PACKETS = 1;
        static final int BYTES = 2;
        static final int HEADS = 3;
        static final int APART = 4;
        static final int ON_PAGES = 5;
        static final int PAGES = 6;
        static final int TOTALS = 7;
        static final int ROW = 6;

        int kept;
        final long[] totals = new long[TOTALS];
        private int latest;
        private final int[] last = new int[ROW * KEPT_SEGMENTS];
        // of each flow the open one; between two calls none is open, so these are never copied
        private final int[] place = new int[FLOWS];
        private final int[] size = new int[FLOWS];
        private final int[] packets = new int[FLOWS];

        void copyFrom(Segments from) {
            kept = from.kept;
            latest = from.latest;
            System.arraycopy(from.totals, 0, totals, 0, TOTALS);
            System.arraycopy(from.last, 0, last, 0, last.length);
        }

        int lately(int ago, int what) {
            return last[ROW * ((latest + KEPT_SEGMENTS - ago) % KEPT_SEGMENTS) + what];
        }

        boolean isOpen(int flow) {
            return packets[flow] > 0;
        }

        boolean fits(int flow, int at, int more, int longest) {
            return isOpen(flow) && endOf(flow) == at && size[flow] + more <= longest;
        }

        int endOf(int flow) {
            return place[flow] + size[flow];
        }

        int sizeOf(int flow) {
            return size[flow];
        }

        void open(int flow, int at, int first) {
            place[flow] = at;
            size[flow] = first;
            packets[flow] = 1;
        }

        void join(int flow, int more) {
            size[flow] += more;
            packets[flow]++;
        }

        void close(int flow, int head, int page) {
            int apart = Math.min(head, size[flow]);
            int onPages = size[flow] - apart;
            int pages = page > 0 ? (onPages + page - 1) / page : 0;
            latest = (latest + 1) % KEPT_SEGMENTS;
            kept = Math.min(KEPT_SEGMENTS, kept + 1);
            int first = ROW * latest;
            last[first] = flow;
            last[first + 1] = place[flow];
            last[first + 2] = size[flow];
            last[first + 3] = packets[flow];
            last[first + 4] = pages;
            last[first + 5] = apart;
            totals[SEGMENTS]++;
            totals[PACKETS] += packets[flow];
            totals[BYTES] += size[flow];
            totals[HEADS] += apart > 0 ? 1 : 0;
            totals[APART] += apart;
            totals[ON_PAGES] += onPages;
            totals[PAGES] += pages;
            packets[flow] = 0;
        }
    }

    /** All that can be taken back and kept as an image. */
    private static final class State {
        final Key key = new Key();
        final Flows flows = new Flows();
        final Table table = new Table();
        final Queue[] queues = new Queue[QUEUES];
        final Segments segments = new Segments();
        final int[] terms = FIRST_TERMS.clone();
        int time;
        int followed;

        State() {
            for (int q = 0; q < QUEUES; q++) {
                queues[q] = new Queue();
            }
        }

        void become(State from) {
            key.copyFrom(from.key);
            flows.copyFrom(from.flows);
            table.copyFrom(from.table);
            for (int q = 0; q < QUEUES; q++) {
                queues[q].copyFrom(from.queues[q]);
            }
            segments.copyFrom(from.segments);
            System.arraycopy(from.terms, 0, terms, 0, TERMS);
            time = from.time;
            followed = from.followed;
        }

        int hashFlow(int f) {
            return key.hashFields(flows.get(Flows.FROM, f), flows.get(Flows.TO, f),
                    flows.get(Flows.PORT, f), flows.get(Flows.OTHER, f), flows.get(Flows.SORT, f));
        }

        /**
         * The fields that count, put together by xor: all that a hash asks of them by a key whose windows are the
         * same for every eighth bit.
         */
        int foldedFields(int flow) {
            int folded = 0;
            for (int field = Flows.FROM; field <= Flows.SORT; field++) {
                if (key.counts(field)) {
                    folded ^= flows.get(field, flow);
                }
            }
            return folded;
        }

        int entryOf(int flow) {
            return entryOfHash(hashFlow(flow));
        }

        int wishOf(int flow) {
            int rule = flows.get(Flows.RULE, flow);
            return rule != NONE ? rule : table.queueOf[entryOf(flow)];
        }

        int flowsOfEntry(int entry) {
            int bits = 0;
            for (int f = 0; f < flows.number; f++) {
                if (entryOf(f) == entry) {
                    bits |= 1 << f;
                }
            }
            return bits;
        }

        int flowsWishing(int queue) {
            int bits = 0;
            for (int f = 0; f < flows.number; f++) {
                if (wishOf(f) == queue) {
                    bits |= 1 << f;
                }
            }
            return bits;
        }

        int packetsWaiting() {
            int all = 0;
            for (int q = 0; q < QUEUES; q++) {
                all += queues[q].number;
            }
            return all;
        }

        int callsInAll() {
            int all = 0;
            for (int q = 0; q < QUEUES; q++) {
                all += queues[q].calls;
            }
            return all;
        }

        /** A packet comes: its queue, or LOST_ONE. */
        int arrive(int flow, int size, boolean pressed) {
            int entry = entryOf(flow);
            int rule = flows.get(Flows.RULE, flow);
            int wish = rule != NONE ? rule : table.queueOf[entry];
            int where = flows.get(Flows.WHERE, flow);
            int q = where == NONE ? wish : where;
            if (q != wish) {
                flows.add(Flows.STUCK, flow, 1);
            }
            if (rule != NONE) {
                flows.put(Flows.USED, flow, time);
            }
            flows.add(Flows.CAME, flow, 1);
            table.hits[entry]++;
            int place = flows.get(Flows.NEXT, flow);
            flows.put(Flows.NEXT, flow, place + size);
            Queue queue = queues[q];
            if (queue.number >= terms[ROOM]) {
                flows.add(Flows.LOST, flow, 1);
                queue.lost++;
                return LOST_ONE;
            }
            queue.append(flow, place, size, pressed, time);
            flows.nowWaits(flow, q);
            if (queue.number >= terms[FULL]) {
                flows.add(Flows.MARKED, flow, 1);
            }
            return q;
        }

        void passTick() {
            time++;
            flows.dropOldRules(time, terms[OLD]);
            for (int q = 0; q < QUEUES; q++) {
                queues[q].keepPace();
                if (queues[q].isDue(time, terms[MANY], terms[SLOW])) {
                    int batch = takeBatch(q);
                    queues[q].learn(batch, terms[MANY]);
                }
            }
        }

        /** A queue calls: how many packets were taken. */
        int takeBatch(int q) {
            Queue queue = queues[q];
            int batch = Math.min(BATCH, queue.number);
            for (int i = 0; i < batch; i++) {
                int flow = queue.at(i, Queue.FLOW);
                int place = queue.at(i, Queue.PLACE);
                int size = queue.at(i, Queue.LONG);
                if (segments.fits(flow, place, size, terms[LONGEST])) {
                    segments.join(flow, size);
                } else {
                    if (segments.isOpen(flow)) {
                        give(flow, q);
                    }
                    segments.open(flow, place, size);
                }
                if (queue.at(i, Queue.PRESSED) == 1) {
                    give(flow, q);
                }
                flows.nowTaken(flow);
            }
            for (int f = 0; f < flows.number; f++) {
                if (segments.isOpen(f)) {
                    give(f, q);
                }
            }
            queue.takeAway(batch, time);
            return batch;
        }

        /** The open segment of a flow is closed and given. */
        private void give(int flow, int q) {
            flows.put(Flows.GIVEN_END, flow, segments.endOf(flow));
            flows.add(Flows.GIVEN, flow, 1);
            flows.add(Flows.GIVEN_BYTES, flow, segments.sizeOf(flow));
            segments.close(flow, terms[HEAD], terms[PAGE]);
            int reader = flows.get(Flows.READER, flow);
            if (terms[FOLLOWS] == 1 && reader != NONE && reader != q && flows.get(Flows.RULE, flow) != reader) {
                flows.putRule(flow, reader, time);
                followed++;
            }
        }

        /** All that was taken was given, and packets of a flow wait in one queue alone. */
        int missingBytes(int flow) {
            int missing = flows.get(Flows.NEXT, flow) - flows.get(Flows.GIVEN_BYTES, flow);
            int q = flows.get(Flows.WHERE, flow);
            if (q == NONE) {
                return missing;
            }
            for (int i = 0; i < queues[q].number; i++) {
                if (queues[q].at(i, Queue.FLOW) == flow) {
                    missing -= queues[q].at(i, Queue.LONG);
                }
            }
            return missing;
        }

        int widestHole(int flow) {
            int end = flows.get(Flows.GIVEN_END, flow);
            int widest = 0;
            int q = flows.get(Flows.WHERE, flow);
            for (int i = 0; q != NONE && i < queues[q].number; i++) {
                if (queues[q].at(i, Queue.FLOW) == flow) {
                    int place = queues[q].at(i, Queue.PLACE);
                    widest = Math.max(widest, place - end);
                    end = place + queues[q].at(i, Queue.LONG);
                }
            }
            return Math.max(widest, flows.get(Flows.NEXT, flow) - end);
        }
    }

    /** What stood ahead of the latest acts, in rooms that are used round. */
    private static final class History {
        int number;
        private final State[] before = new State[KEPT_ACTS];
        private final int[] acts = new int[KEPT_ACTS];
        private int latest;

        void keep(int act, State now) {
            latest = (latest + 1) % KEPT_ACTS;
            before[latest] = copied(before[latest], now);
            acts[latest] = act;
            number = Math.min(KEPT_ACTS, number + 1);
        }

        /** Is only asked while something is kept: the act that was taken back. */
        int takeBack(State now) {
            int act = acts[latest];
            if (before[latest] != null) {
                now.become(before[latest]);
            }
            latest = (latest + KEPT_ACTS - 1) % KEPT_ACTS;
            number--;
            return act;
        }
    }
}
