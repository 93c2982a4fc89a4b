/** Every sentence of Terms I by its bounds: the last value that is taken, the first that is refused, empty, full. */
public final class TermsOneTest {
    private static final Sentences S = new Sentences();

    public static void main(String[] args) {
        S.firstTerms();
        fields();
        keyAndHash();
        entriesAndRules();
        packetsAndQueues();
        termBounds();
        termsAtWork();
        queueState();
        refusing();
        S.finish();
    }

    private static void due(String call, long got, long want) {
        S.due(call, got, want);
    }

    private static int flowWith(RxQueues x, int field, int v) {
        int[] f = new int[5];
        f[field] = v;
        return x.flow(f[0], f[1], f[2], f[3], f[4]);
    }

    private static void fields() {
        S.test("FIELDS of a FLOW: 0 FROM, 1 TO, 2 PORT, 3 OTHER (bytes 0 .. 255), 4 SORT (0, 1).", () -> {
            for (int field = 0; field < 5; field++) {
                int most = field == 4 ? 1 : 255;
                RxQueues x = new RxQueues();
                for (int wrong : new int[] {-1, most + 1, Integer.MIN_VALUE, Integer.MAX_VALUE}) {
                    due("field " + field + " of " + wrong, flowWith(x, field, wrong), -1);
                }
                due("none came by field " + field, x.count(1), 0);
                due("field " + field + " of 0", flowWith(x, field, 0), 0);
                due("field " + field + " of " + most, flowWith(x, field, most), 1);
                due("of(0, " + field + ")", x.of(0, field), 0);
                due("of(1, " + field + ")", x.of(1, field), most);
            }
        });
        S.test("FLOWS 0 .. 23, as they came, no two with the same FIELDS.", () -> {
            RxQueues x = new RxQueues();
            for (int f = 0; f < 24; f++) {
                due("flow " + f, x.flow(9, 9, 9, 255 - f, 0), f);
            }
            due("a 25th", x.flow(9, 9, 9, 0, 0), -5);
            for (int f = 23; f >= 0; f--) {
                due("again " + f, x.flow(9, 9, 9, 255 - f, 0), f);
            }
            due("24 of them", x.count(1), 24);
            RxQueues y = new RxQueues();
            y.flow(0, 0, 0, 0, 0);
            for (int field = 0; field < 5; field++) {
                due("one field is enough, " + field, flowWith(y, field, 1), field + 1);
            }
        });
        S.test("MASK: FIELDS that count, as bits (31 at first).", () -> {
            RxQueues x = new RxQueues();
            due("at first", x.count(3), 31);
            x.key(0x12345678, 0x9ABCDEF1, 0x23);
            int[] alone = {x.hash(255, 0, 0, 0, 0), x.hash(0, 255, 0, 0, 0), x.hash(0, 0, 255, 0, 0),
                x.hash(0, 0, 0, 255, 0), x.hash(0, 0, 0, 0, 1)};
            for (int v = 0; v < 32; v++) {
                x.mask(v);
                int want = 0;
                for (int field = 0; field < 5; field++) {
                    want ^= (v & 1 << field) != 0 ? alone[field] : 0;
                }
                due("MASK " + v, x.hash(255, 255, 255, 255, 1), want);
            }
        });
    }

    private static void keyAndHash() {
        S.test("KEY: 72 bits, told by two ints (the highest bit first) and a byte 0 .. 255: "
                + "bit 0 is the highest of the first (at first 0, 0, 0).", () -> {
            RxQueues x = new RxQueues();
            for (int i = 0; i <= 40; i++) {
                due("at first window(" + i + ")", x.window(i), 0);
            }
            for (int bit = 0; bit < 72; bit++) {
                x.key(bit < 32 ? 1 << 31 - bit : 0, bit >= 32 && bit < 64 ? 1 << 63 - bit : 0, bit >= 64 ? 1 << 71 - bit : 0);
                for (int i = 0; i <= 40; i++) {
                    boolean inside = bit >= i && bit <= i + 31;
                    due("bit " + bit + ", window(" + i + ")", x.window(i), inside ? 1 << 31 - (bit - i) : 0);
                }
            }
        });
        S.test("HASH of FIELDS: of the 40 bits of the five bytes FROM, TO, PORT, OTHER, SORT "
                + "(bit 0 the highest of FROM; a FIELD that does not count is 0) ", () -> {
            RxQueues x = new RxQueues();
            x.key(Integer.MIN_VALUE, 0, 0);
            due("bit 0", x.hash(128, 0, 0, 0, 0), Integer.MIN_VALUE);
            due("bit 1", x.hash(64, 0, 0, 0, 0), 0);
            x.mask(30);
            due("FROM does not count", x.hash(128, 0, 0, 0, 0), 0);
            x.mask(31);
            x.key(0, 0, 2);
            due("bit 39 is SORT's lowest: its 32 bits end at bit 70", x.hash(0, 0, 0, 0, 1), 1);
            due("bit 31 is OTHER's lowest: its 32 bits end at bit 62", x.hash(0, 0, 0, 1, 0), 0);
        });
        S.test("for each bit i that is 1 the 32 bits of KEY from bit i on, as an int; "
                + "all of these xor one another (0 of none).", () -> {
            RxQueues x = new RxQueues();
            x.key(0xDEADBEEF, 0x0BADF00D, 0xC5);
            int all = x.window(39);
            due("none", x.hash(0, 0, 0, 0, 0), 0);
            due("bit 39", x.hash(0, 0, 0, 0, 1), x.window(39));
            for (int i = 0; i < 32; i++) {
                int v = 128 >> i % 8;
                due("bit " + i, x.hash(i < 8 ? v : 0, i / 8 == 1 ? v : 0, i / 8 == 2 ? v : 0, i / 8 == 3 ? v : 0, 0),
                    x.window(i));
                all ^= x.window(i);
            }
            due("all", x.hash(255, 255, 255, 255, 1), all);
        });
        S.test("ENTRY of a HASH: its lowest 4 bits.", () -> {
            RxQueues x = new RxQueues();
            x.key(1, 0, 0);
            int[][] fields = {{0, 0, 0}, {240, 0, 15}, {8, 0, 0}, {248, 0, 15}, {0, 1, 0}, {240, 1, 15}, {16, 1, 8}};
            int[] hashes = {0, 15, 16, 31, Integer.MIN_VALUE, Integer.MIN_VALUE + 15, Integer.MIN_VALUE + 8};
            for (int f = 0; f < fields.length; f++) {
                x.flow(fields[f][0], 0, 0, fields[f][1], 0);
                due("hashOf(" + f + ")", x.hashOf(f), hashes[f]);
                due("of(" + f + ", 5)", x.of(f, 5), fields[f][2]);
            }
        });
    }

    private static void entriesAndRules() {
        S.test("TABLE: of each ENTRY 0 .. 15 a QUEUE 0 .. 3 (ENTRY modulo 4 at first).", () -> {
            RxQueues x = new RxQueues();
            for (int e = 0; e < 16; e++) {
                due("at first " + e, x.entry(e, 0), e % 4);
            }
            for (int wrong : new int[] {-1, 16, Integer.MIN_VALUE, Integer.MAX_VALUE}) {
                due("entry " + wrong, x.table(wrong, 0), -1);
            }
            for (int wrong : new int[] {-1, 4, Integer.MIN_VALUE, Integer.MAX_VALUE}) {
                due("queue " + wrong, x.table(0, wrong), -1);
            }
            for (int e : new int[] {0, 15}) {
                due("to 3, entry " + e, x.table(e, 3), e % 4);
                due("to 0, entry " + e, x.table(e, 0), 3);
            }
            for (int e = 1; e < 15; e++) {
                due("others stay, " + e, x.entry(e, 0), e % 4);
            }
        });
        S.test("RULES, 6 at most: a FLOW, a QUEUE, USED: the TIME when it came or a packet of the FLOW last came.", () -> {
            RxQueues x = Made.together(24);
            for (int f = 0; f < 6; f++) {
                due("none goes for " + f, x.steer(f, f % 4), -1);
            }
            due("6", x.count(2), 6);
            for (int f = 6; f < 24; f++) {
                due("one goes for " + f, x.steer(f, f % 4), f - 6);
                due("still 6 with " + f, x.count(2), 6);
            }
            RxQueues y = Made.together(1);
            y.tick(3);
            y.packet(0, 10, false);
            y.tick(2);
            y.steer(0, 2);
            due("a packet ahead of it is nothing to it", y.of(0, 14), 5);
            y.tick(1);
            due("as it was", y.of(0, 14), 5);
            y.packet(0, 10, false);
            due("a packet came", y.of(0, 14), 6);
        });
        S.test("WISH of a FLOW: the QUEUE of its RULE, or else the TABLE's of its ENTRY.", () -> {
            RxQueues x = Made.onEntries(15, 12);
            due("by the TABLE 3", x.of(0, 6), 3);
            due("by the TABLE 0", x.of(1, 6), 0);
            x.steer(0, 0);
            x.steer(1, 3);
            due("by a RULE 0", x.of(0, 6), 0);
            due("by a RULE 3", x.of(1, 6), 3);
            x.table(15, 1);
            due("the RULE is ahead of the TABLE", x.of(0, 6), 0);
            x.free(0);
            due("by the TABLE again", x.of(0, 6), 1);
            due("where it goes", x.packet(0, 1, false), 1);
        });
    }

    private static void packetsAndQueues() {
        S.test("PACKETS: a FLOW, a PLACE (an int, 0 on, in what the FLOW carries), LONG 1 .. 1,500, "
                + "whether it is PRESSED.", () -> {
            RxQueues x = Made.together(1);
            for (int wrong : new int[] {0, -1, 1501, Integer.MIN_VALUE, Integer.MAX_VALUE}) {
                due("LONG " + wrong, x.packet(0, wrong, false), -1);
            }
            due("LONG 1", x.packet(0, 1, false), 0);
            due("LONG 1,500", x.packet(0, 1500, true), 0);
            int[][] want = {{0, 0, 1, 0}, {0, 1, 1500, 1}};
            for (int i = 0; i < 2; i++) {
                for (int w = 0; w < 4; w++) {
                    due("waits(0, " + i + ", " + w + ")", x.waits(0, i, w), want[i][w]);
                }
            }
        });
        S.test("QUEUES: PACKETS in the order in which they came, ROOM at most.", () -> {
            RxQueues x = Made.together(3);
            x.terms(0, 32);
            for (int i = 0; i < 32; i++) {
                due("packet " + i, x.packet(i * 7 % 3, i + 1, false), 0);
            }
            due("one more", x.packet(0, 99, false), 4);
            for (int i = 0; i < 32; i++) {
                due("FLOW of " + i, x.waits(0, i, 0), i * 7 % 3);
                due("LONG of " + i, x.waits(0, i, 2), i + 1);
            }
            due("ROOM at most", x.queue(0, 0), 32);
            due("behind the last", x.waits(0, 32, 0), -1);
            x.poll(0);
            due("the 17th is the first then", x.waits(0, 0, 2), 17);
            due("one may come", x.packet(0, 99, false), 0);
            due("behind all others", x.waits(0, 16, 2), 99);
        });
        S.test("READER of a FLOW: a QUEUE, or none (at first).", () -> {
            RxQueues x = Made.together(1);
            due("at first", x.of(0, 17), -1);
            for (int q : new int[] {0, 3, -1}) {
                x.reads(0, q);
                due("status() of " + q, x.status(), 0);
                due("READER " + q, x.of(0, 17), q);
            }
            for (int wrong : new int[] {-2, 4, Integer.MIN_VALUE, Integer.MAX_VALUE}) {
                x.reads(0, wrong);
                due("status() of " + wrong, x.status(), -1);
            }
        });
    }

    private static void term(String quote, int what, int least, int first, int most) {
        S.test(quote, () -> {
            RxQueues x = new RxQueues();
            due("at first", x.count(14 + what), first);
            for (int wrong : new int[] {least - 1, most + 1, Integer.MIN_VALUE, Integer.MAX_VALUE}) {
                due("refused " + wrong, x.terms(what, wrong), -1);
                due("status() of " + wrong, x.status(), -1);
                due("as it was behind " + wrong, x.count(14 + what), first);
            }
            due("the least", x.terms(what, least), first);
            due("is the least", x.count(14 + what), least);
            due("the most", x.terms(what, most), least);
            due("is the most", x.count(14 + what), most);
            for (int other = 0; other < 9; other++) {
                if (other != what) {
                    due("TERM " + other + " as it was", x.count(14 + other), new RxQueues().count(14 + other));
                }
            }
        });
    }

    private static void termBounds() {
        term("TERMS: 0 ROOM 1 .. 32 (16 at first),", 0, 1, 16, 32);
        term("1 MANY 1 .. 32 (8),", 1, 1, 8, 32);
        term("2 OLD 1 .. 999 (40),", 2, 1, 40, 999);
        term("3 LONGEST 1 .. 9,999 (4,000),", 3, 1, 4000, 9999);
        term("4 HEAD 0 .. 64 (40),", 4, 0, 40, 64);
        term("5 PAGE 64 .. 4,096 (1,024),", 5, 64, 1024, 4096);
        term("6 FOLLOWS 0, 1 (0),", 6, 0, 0, 1);
        term("7 SLOW 0 .. 256 (0),", 7, 0, 0, 256);
        term("8 FULL 1 .. 32 (12).", 8, 1, 12, 32);
    }

    /** The least and the most of each term, where it is used. */
    private static void termsAtWork() {
        S.test("0 ROOM 1 .. 32", () -> {
            RxQueues x = Made.together(1);
            x.terms(0, 1);
            due("1: the first", x.packet(0, 1, false), 0);
            due("1: the second", x.packet(0, 1, false), 4);
            x.terms(0, 32);
            due("32: 31 more", x.burst(0, 20, 1) + x.burst(0, 11, 1), 31);
            due("32: one more", x.packet(0, 1, false), 4);
        });
        S.test("1 MANY 1 .. 32", () -> {
            RxQueues x = Made.together(1);
            x.terms(1, 1);
            due("1: nothing waits", x.tick(1), 0);
            x.packet(0, 1, false);
            due("1: one waits", x.tick(1), 1);
            x.terms(1, 32);
            x.terms(0, 32);
            x.burst(0, 20, 1);
            x.burst(0, 11, 1);
            due("32: 31 wait", x.tick(1), 0);
            x.packet(0, 1, false);
            due("32: 32 wait", x.tick(1), 1);
        });
        S.test("2 OLD 1 .. 999", () -> {
            RxQueues x = Made.together(1);
            x.terms(2, 1);
            x.steer(0, 1);
            x.tick(1);
            due("1: at TIME 1", x.count(2), 1);
            x.tick(1);
            due("1: at TIME 2", x.count(2), 0);
            x.terms(2, 999);
            x.steer(0, 1);
            Made.tickUntil(x, 1001);
            due("999: at TIME 1001", x.count(2), 1);
            x.tick(1);
            due("999: at TIME 1002", x.count(2), 0);
        });
        S.test("3 LONGEST 1 .. 9,999", () -> {
            RxQueues x = Made.together(1);
            x.terms(3, 1);
            Made.packets(x, 0, 2, 1);
            x.poll(0);
            due("1: two of 1", x.given(0), 2);
            x.terms(3, 9999);
            Made.packets(x, 0, 9, 1111);
            x.poll(0);
            due("9,999: one segment", x.given(0), 3);
            due("9,999: its LONG", x.segment(0, 2), 9999);
            Made.packets(x, 0, 9, 1111);
            x.packet(0, 1, false);
            x.poll(0);
            due("10,000: two segments", x.given(0), 5);
            due("10,000: the last has 1", x.segment(0, 2), 1);
        });
        S.test("4 HEAD 0 .. 64", () -> {
            RxQueues x = Made.together(1);
            x.terms(4, 0);
            Made.comeAndGo(x, 1);
            due("0: apart", x.segment(0, 5), 0);
            due("0: PAGES", x.segment(0, 4), 1);
            x.terms(4, 64);
            x.packet(0, 64, false);
            x.poll(0);
            due("64: apart", x.segment(0, 5), 64);
            due("64: PAGES", x.segment(0, 4), 0);
            x.packet(0, 65, false);
            x.poll(0);
            due("65: apart", x.segment(0, 5), 64);
            due("65: PAGES", x.segment(0, 4), 1);
        });
        S.test("5 PAGE 64 .. 4,096", () -> {
            RxQueues x = Made.together(1);
            x.terms(4, 0);
            x.terms(5, 64);
            x.packet(0, 64, false);
            x.poll(0);
            due("64: PAGES of 64", x.segment(0, 4), 1);
            x.packet(0, 65, false);
            x.poll(0);
            due("64: PAGES of 65", x.segment(0, 4), 2);
            x.terms(5, 4096);
            x.terms(3, 9999);
            Made.packets(x, 0, 4, 1024);
            x.poll(0);
            due("4,096: PAGES of 4,096", x.segment(0, 4), 1);
            Made.packets(x, 0, 4, 1024);
            x.packet(0, 1, false);
            x.poll(0);
            due("4,096: PAGES of 4,097", x.segment(0, 4), 2);
        });
        S.test("6 FOLLOWS 0, 1", () -> {
            RxQueues x = Made.together(1);
            x.reads(0, 1);
            Made.comeAndGo(x, 1);
            due("0", x.count(2), 0);
            x.terms(6, 1);
            Made.comeAndGo(x, 1);
            due("1", x.count(2), 1);
        });
        S.test("7 SLOW 0 .. 256", () -> {
            due("0: it is never below", slowAt(0, 0, 1), 0);
            due("256: PACE 255 is below", slowAt(256, 5, 19), 1);
            due("256: PACE 256 is not", slowAt(256, 4, 36), 0);
        });
        S.test("8 FULL 1 .. 32", () -> {
            RxQueues x = Made.together(1);
            x.terms(8, 1);
            x.packet(0, 1, false);
            due("1: the first", x.of(0, 18), 1);
            x.terms(8, 32);
            x.terms(0, 32);
            x.burst(0, 20, 1);
            x.burst(0, 10, 1);
            due("32: the 31st", x.of(0, 18), 1);
            x.packet(0, 1, false);
            due("32: the 32nd", x.of(0, 18), 2);
            x.packet(0, 1, false);
            due("32: a lost one", x.of(0, 18), 2);
        });
    }

    /**
     * Segments given by a tick of a packet that waits, the last of those that came then; ahead of it 32 came by each
     * of some ticks: PACE 64, 120, 169, 211, 248.
     */
    private static int slowAt(int slow, int ticks, int last) {
        RxQueues x = Made.together(1);
        x.terms(7, slow);
        for (int i = 0; i < ticks; i++) {
            Made.comeAndGo(x, 32);
            x.tick(1);
        }
        Made.comeAndGo(x, last - 1);
        x.packet(0, 1, false);
        return x.tick(1);
    }

    private static void queueState() {
        S.test("Of a QUEUE: DELAY 1 .. 16 (4 at first),", () -> {
            RxQueues x = Made.together(1);
            due("at first", x.queue(0, 1), 4);
            for (int want : new int[] {8, 16, 16}) {
                x.burst(0, 8, 1);
                x.tick(1);
                due("twice it", x.queue(0, 1), want);
            }
            for (int want : new int[] {8, 4, 2, 1, 1}) {
                x.packet(0, 1, false);
                x.tick(16);
                due("half of it", x.queue(0, 1), want);
            }
            for (int q = 1; q < 4; q++) {
                due("of another QUEUE", x.queue(q, 1), 4);
            }
        });
        S.test("SINCE: the TIME when a PACKET came while it had none, or of its latest CALL, if PACKETS were left "
                + "(none, if it has none);", () -> {
            RxQueues x = Made.together(1);
            due("it has none", x.queue(0, 2), -1);
            x.packet(0, 1, false);
            due("at TIME 0", x.queue(0, 2), 0);
            x.tick(3);
            x.packet(0, 1, false);
            due("a second one", x.queue(0, 2), 0);
            x.poll(0);
            due("none were left", x.queue(0, 2), -1);
            x.terms(0, 32);
            x.burst(0, 17, 1);
            due("at TIME 3", x.queue(0, 2), 3);
            x.tick(1);
            due("one was left by a CALL of a TICK", x.queue(0, 2), 4);
            x.burst(0, 16, 1);
            x.terms(1, 32);
            x.tick(2);
            due("no CALL", x.queue(0, 2), 4);
            x.poll(0);
            due("one was left by poll()", x.queue(0, 2), 6);
            x.poll(0);
            due("none were left by poll()", x.queue(0, 2), -1);
        });
        S.test("PACE (0 at first),", () -> {
            RxQueues x = new RxQueues();
            x.tick(100);
            for (int q = 0; q < 4; q++) {
                due("PACE of " + q, x.queue(q, 7), 0);
            }
        });
        S.test("FRESH: PACKETS that came to it (LOST ones not) since the latest TICK.", () -> {
            RxQueues x = Made.onEntries(0, 1);
            x.terms(0, 2);
            due("none", x.queue(0, 8), 0);
            Made.packets(x, 0, 3, 1);
            due("a lost one not", x.queue(0, 8), 2);
            due("of another QUEUE", x.queue(1, 8), 0);
            x.poll(0);
            due("taken ones, too", x.queue(0, 8), 2);
            x.packet(0, 1, false);
            due("one more than ROOM", x.queue(0, 8), 3);
            x.tick(1);
            due("since the latest TICK", x.queue(0, 8), 0);
        });
        S.test("TIME 0 .. 99,999.", () -> {
            RxQueues x = new RxQueues();
            due("at first", x.count(0), 0);
            Made.tickUntil(x, 99998);
            due("two more", x.tick(2), -4);
            due("TIME as it was", x.count(0), 99998);
            due("one more", x.tick(1), 0);
            due("the last TIME", x.count(0), 99999);
            due("none more", x.tick(1), -4);
            due("an image of it", x.image(0), 99999);
        });
    }

    private static void refusing() {
        S.test("REFUSED by: -1 a number that can't be;", () -> {
            RxQueues x = Made.together(1);
            due("table(16, 0)", x.table(16, 0), -1);
            due("status()", x.status(), -1);
            due("count(10)", x.count(10), 1);
        });
        S.test("-2 there is no such FLOW, RULE;", () -> {
            RxQueues x = Made.together(1);
            due("FLOW", x.gap(1, 1), -2);
            due("status() of a FLOW", x.status(), -2);
            due("RULE", x.free(0), -2);
            due("status() of a RULE", x.status(), -2);
            due("count(11)", x.count(11), 2);
        });
        S.test("-4 it can't be by what stands;", () -> {
            RxQueues x = Made.together(1);
            due("poll(0)", x.poll(0), -4);
            due("status()", x.status(), -4);
            due("count(12)", x.count(12), 1);
        });
        S.test("-5 no room.", () -> {
            RxQueues x = Made.together(24);
            due("flow()", x.flow(24, 0, 0, 0, 0), -5);
            due("status()", x.status(), -5);
            due("count(13)", x.count(13), 1);
        });
        S.test("The first of these in that order.", () -> {
            RxQueues x = Made.together(24);
            due("-1 ahead of -5", x.flow(256, 0, 0, 0, 0), -1);
            due("-1 ahead of -2", x.packet(24, 0, false), -1);
            Made.tickUntil(x, 99999);
            due("-1 ahead of -4", x.tick(0), -1);
            Made.gapUntil(x, 23, 1000000000);
            due("-1 ahead of -4, too", x.packet(23, 1501, false), -1);
            due("-4", x.packet(23, 1500, false), -4);
            due("-2 ahead of -4", x.burst(24, 1, 1500), -2);
        });
        S.test("What is REFUSED changes nothing but what is told of it.", () -> {
            RxQueues x = Made.busy();
            long before = Look.atAll(x);
            x.poll(9);
            x.packet(9, 1, false);
            x.back(0);
            due("all as it was", Look.atAll(x), before);
            due("what can be undone", x.count(9), 8);
            due("told", 100 * x.count(10) + 10 * x.count(11) + x.count(12), 111);
        });
    }
}
