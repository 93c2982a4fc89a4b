/** Promises 1 to 5, 20, 21, 23, 25, 30 to 34 and 36: flows, keys, hashes, the table and questions about them. */
public final class KeyTest {
    private static final Check CHECK = new Check();

    public static void main(String[] args) {
        newObject();
        keys();
        masks();
        flows();
        table();
        hashes();
        finding();
        entries();
        windows();
        bothWays();
        reach();
        aim();
        spread();
        alike();
        allFlows();
        CHECK.finish();
    }

    private static void due(String call, long got, long want) {
        CHECK.due(call, got, want);
    }

    private static void newObject() {
        RxQueues x = new RxQueues();
        int[] counts = {0, 0, 0, 31, 0, 0, 0, 0, 0, 0, 0, 0, 0, 0, 16, 8, 40, 4000, 40, 1024, 0, 0, 12, 0, 0};
        for (int i = 0; i < counts.length; i++) {
            due("new: count(" + i + ")", x.count(i), counts[i]);
        }
        for (int i = 0; i <= 40; i++) {
            due("new: window(" + i + ")", x.window(i), 0);
        }
        for (int e = 0; e < 16; e++) {
            due("new: entry(" + e + ", 0)", x.entry(e, 0), e % 4);
            due("new: entry(" + e + ", 1)", x.entry(e, 1), 0);
            due("new: entry(" + e + ", 2)", x.entry(e, 2), 0);
        }
        int[] queue = {0, 4, -1, 0, 0, 0, 0, 0, 0, 0x1111};
        for (int q = 0; q < 4; q++) {
            for (int w = 0; w < 9; w++) {
                due("new: queue(" + q + ", " + w + ")", x.queue(q, w), queue[w]);
            }
            due("new: queue(" + q + ", 9)", x.queue(q, 9), queue[9] << q);
        }
        for (int w = 0; w < 7; w++) {
            due("new: given(" + w + ")", x.given(w), 0);
        }
        due("new: of(0, 0)", x.of(0, 0), -1);
        due("new: segment(0, 0)", x.segment(0, 0), -1);
        due("new: status()", x.status(), 0);
        due("new: undo()", x.undo(), -4);
        due("new: back(0)", x.back(0), -4);
        due("new: drain()", x.drain(), 0);
        CHECK.due("new: isBothWays()", x.isBothWays(), true);
        due("new: reach()", x.reach(), 1);
    }

    private static void keys() {
        RxQueues x = new RxQueues();
        due("key: 255", x.key(0, 0, 255), 0);
        due("key: window(40)", x.window(40), 255);
        due("key: window(39)", x.window(39), 127);
        due("key: window(33)", x.window(33), 1);
        due("key: window(32)", x.window(32), 0);
        due("key: 256", x.key(1, 2, 256), -1);
        due("key: -1", x.key(1, 2, -1), -1);
        due("key: status()", x.status(), -1);
        due("key: refused, window(0)", x.window(0), 0);
        due("key: of any ints", x.key(Integer.MIN_VALUE, -1, 0), 0);
        due("key: status() again", x.status(), 0);
        due("key: window(0)", x.window(0), Integer.MIN_VALUE);
        due("key: window(1)", x.window(1), 1);
        due("key: window(31)", x.window(31), 0x7FFFFFFF);
        due("key: window(32) of -1", x.window(32), -1);
        due("key: window(36)", x.window(36), -16);
    }

    private static void masks() {
        RxQueues x = new RxQueues();
        x.key(1, 0, 0);
        due("mask: 30", x.mask(30), 31);
        due("mask: FROM does not count", x.hash(128, 0, 0, 0, 0), 0);
        due("mask: TO does", x.hash(128, 128, 0, 0, 0), 256);
        due("mask: 1", x.mask(1), 30);
        due("mask: only FROM", x.hash(128, 128, 128, 128, 1), 1);
        due("mask: 4", x.mask(4), 1);
        due("mask: only PORT", x.hash(255, 255, 128, 255, 1), 65536);
        due("mask: 32", x.mask(32), -1);
        due("mask: -1", x.mask(-1), -1);
        due("mask: count(3)", x.count(3), 4);
        due("mask: 31", x.mask(31), 4);
        due("mask: 0", x.mask(0), 31);
        x.mask(16);
        x.key(0, 1 << 24, 0);
        due("mask: only SORT", x.hash(255, 255, 255, 255, 1), x.window(39));
        due("mask: SORT's window", x.window(39), 1 << 31);
    }

    private static void flows() {
        RxQueues x = new RxQueues();
        int[][] wrong = {{-1, 0, 0, 0, 0}, {256, 0, 0, 0, 0}, {0, -1, 0, 0, 0}, {0, 256, 0, 0, 0}, {0, 0, -1, 0, 0},
            {0, 0, 256, 0, 0}, {0, 0, 0, -1, 0}, {0, 0, 0, 256, 0}, {0, 0, 0, 0, -1}, {0, 0, 0, 0, 2}};
        for (int[] w : wrong) {
            due("flow: wrong", x.flow(w[0], w[1], w[2], w[3], w[4]), -1);
        }
        due("flow: count(1)", x.count(1), 0);
        due("flow: first", x.flow(255, 255, 255, 255, 1), 0);
        due("flow: another SORT", x.flow(255, 255, 255, 255, 0), 1);
        due("flow: known", x.flow(255, 255, 255, 255, 1), 0);
        due("flow: known is no act", x.count(9), 2);
        x.mask(0);
        due("flow: masked fields still tell flows apart", x.flow(254, 255, 255, 255, 0), 2);
        for (int i = 3; i < 24; i++) {
            due("flow: " + i, x.flow(i, 2 * i, 0, 7, i % 2), i);
        }
        due("flow: no room", x.flow(100, 0, 0, 0, 0), -5);
        due("flow: status()", x.status(), -5);
        due("flow: wrong ahead of no room", x.flow(256, 0, 0, 0, 0), -1);
        due("flow: known without room", x.flow(23, 46, 0, 7, 1), 23);
        due("flow: status() again", x.status(), 0);
        due("flow: count(13)", x.count(13), 1);
        due("flow: count(1) again", x.count(1), 24);
        int[] fields = {23, 46, 0, 7, 1};
        for (int w = 0; w < 5; w++) {
            due("flow: of(23, " + w + ")", x.of(23, w), fields[w]);
        }
    }

    private static void table() {
        RxQueues x = new RxQueues();
        due("table: 5 to 0", x.table(5, 0), 1);
        due("table: 5 to 3", x.table(5, 3), 0);
        due("table: entry(5, 0)", x.entry(5, 0), 3);
        due("table: queue(3, 9)", x.queue(3, 9), 0x8888 | 32);
        due("table: queue(1, 9)", x.queue(1, 9), 0x2222 ^ 32);
        due("table: entry 16", x.table(16, 0), -1);
        due("table: entry -1", x.table(-1, 0), -1);
        due("table: queue 4", x.table(0, 4), -1);
        due("table: queue -1", x.table(0, -1), -1);
        due("table: count(10)", x.count(10), 4);
        due("table: entry(0, 0)", x.entry(0, 0), 0);
        due("table: the last", x.table(15, 3), 3);
    }

    private static void hashes() {
        RxQueues x = new RxQueues();
        x.key(0x12345678, 0x9ABCDEF0, 0x5A);
        due("hash: window(8)", x.window(8), 0x3456789A);
        due("hash: FROM 1 is bit 7", x.hash(1, 0, 0, 0, 0), x.window(7));
        due("hash: TO 128 is bit 8", x.hash(0, 128, 0, 0, 0), 0x3456789A);
        due("hash: PORT 128 is bit 16", x.hash(0, 0, 128, 0, 0), 0x56789ABC);
        due("hash: OTHER 128 is bit 24", x.hash(0, 0, 0, 128, 0), 0x789ABCDE);
        due("hash: SORT 1 is bit 39", x.hash(0, 0, 0, 0, 1), x.window(39));
        due("hash: xor", x.hash(0, 128, 128, 0, 0), 0x3456789A ^ 0x56789ABC);
        due("hash: of none", x.hash(0, 0, 0, 0, 0), 0);
        due("hash: 256", x.hash(256, 128, 0, 0, 0), 0);
        due("hash: -1", x.hash(0, 128, 0, -1, 0), 0);
        due("hash: SORT 2", x.hash(0, 128, 0, 0, 2), 0);
        due("hash: wrong ones are not refused", x.count(10), 0);
        x.flow(0, 128, 0, 0, 0);
        due("hashOf: 0", x.hashOf(0), 0x3456789A);
        due("hashOf: 1", x.hashOf(1), 0);
        due("hashOf: -1", x.hashOf(-1), 0);
        due("hashOf: of(0, 5)", x.of(0, 5), 10);
        x.mask(1);
        due("hashOf: masked", x.hashOf(0), 0);
    }

    private static void finding() {
        RxQueues x = new RxQueues();
        due("find: no flows", x.find(0, 0, 0, 0, 0), -1);
        x.flow(1, 2, 3, 4, 0);
        x.flow(1, 2, 3, 4, 1);
        due("find: 1", x.find(1, 2, 3, 4, 1), 1);
        due("find: 0", x.find(1, 2, 3, 4, 0), 0);
        due("find: FROM", x.find(2, 2, 3, 4, 0), -1);
        due("find: TO", x.find(1, 1, 3, 4, 0), -1);
        due("find: PORT", x.find(1, 2, 4, 4, 0), -1);
        due("find: OTHER", x.find(1, 2, 3, 3, 0), -1);
        due("find: wrong", x.find(-1, 2, 3, 3, 9), -1);
        due("find: status()", x.status(), 0);
    }

    private static void entries() {
        RxQueues x = new RxQueues();
        x.key(1, 0, 0);
        x.flow(128, 0, 0, 0, 0);
        x.flow(64, 0, 0, 0, 0);
        x.flow(128, 1, 0, 0, 0);
        due("entry: flows of 1", x.entry(1, 2), 5);
        due("entry: flows of 2", x.entry(2, 2), 2);
        x.terms(0, 1);
        x.packet(0, 1, false);
        x.packet(2, 1, false);
        due("entry: hits, lost ones too", x.entry(1, 1), 2);
        due("entry: 3", x.entry(1, 3), -1);
        due("entry: -1", x.entry(1, -1), -1);
        due("entry: 16", x.entry(16, 0), -1);
        due("entry: -1, 0", x.entry(-1, 0), -1);
        x.steer(1, 0);
        x.packet(1, 1, false);
        due("entry: hits of a steered flow", x.entry(2, 1), 1);
    }

    private static void windows() {
        RxQueues x = new RxQueues();
        x.key(-1, -1, 255);
        due("window: 0", x.window(0), -1);
        due("window: 40", x.window(40), -1);
        due("window: 41", x.window(41), 0);
        due("window: -1", x.window(-1), 0);
        due("window: least", x.window(Integer.MIN_VALUE), 0);
        due("window: most", x.window(Integer.MAX_VALUE), 0);
    }

    private static void bothWays() {
        RxQueues x = new RxQueues();
        x.key(0x6D6D6D6D, 0x6D6D6D6D, 0x6D);
        CHECK.due("isBothWays: one byte", x.isBothWays(), true);
        x.key(0x6D6D6D6D, 0x6D6D6D6D, 0x6C);
        CHECK.due("isBothWays: last bit can't be seen", x.isBothWays(), true);
        x.key(0x6D6D6D6D, 0x6D6D6D6D, 0x6D ^ 4);
        CHECK.due("isBothWays: bit 69 can't be seen without SORT's window", x.isBothWays(), true);
        x.key(0x6D6D6D6D, 0x6D6D6D6C, 0x6D);
        CHECK.due("isBothWays: bit 63 is no more the same", x.isBothWays(), true);
        x.key(0x6D6D6D6D, 0x6D6D6D6D ^ 2, 0x6D);
        CHECK.due("isBothWays: bit 62 is seen", x.isBothWays(), false);
        x.mask(3);
        CHECK.due("isBothWays: but not from FROM and TO", x.isBothWays(), true);
        x.mask(12);
        CHECK.due("isBothWays: but from PORT and OTHER", x.isBothWays(), false);
        x.mask(16);
        CHECK.due("isBothWays: only SORT", x.isBothWays(), true);
        x.mask(1);
        CHECK.due("isBothWays: only FROM", x.isBothWays(), false);
        x.mask(4);
        CHECK.due("isBothWays: only PORT", x.isBothWays(), false);
        x.key(0, 0, 255);
        x.mask(31);
        CHECK.due("isBothWays: only SORT's windows are not 0", x.isBothWays(), true);
        x.key(1, 0, 0);
        CHECK.due("isBothWays: 1, 0, 0", x.isBothWays(), false);
        x.mask(3);
        x.key(Integer.MIN_VALUE, 0, 0);
        CHECK.due("isBothWays: bit 0 is FROM's highest alone", x.isBothWays(), false);
        x.key(1 << 29, 0, 0);
        CHECK.due("isBothWays: bit 2", x.isBothWays(), false);
        x.mask(12);
        CHECK.due("isBothWays: bit 2 is not PORT's", x.isBothWays(), true);
        x.key(1 << 15, 0, 0);
        CHECK.due("isBothWays: bit 16 is PORT's highest alone", x.isBothWays(), false);
        x.mask(0);
        CHECK.due("isBothWays: nothing counts", x.isBothWays(), true);
    }

    private static void reach() {
        RxQueues x = new RxQueues();
        x.key(1, 0, 0);
        due("reach: by FROM", x.reach(), 16);
        x.mask(30);
        due("reach: no other window has low bits", x.reach(), 1);
        x.mask(31);
        x.key(0, 0, 2);
        due("reach: bit 70 is SORT's lowest", x.reach(), 2);
        x.key(0, 0, 4);
        due("reach: bit 69, SORT's other bits are 0", x.reach(), 2);
        due("reach: window(39) of that", x.window(39), 2);
        due("reach: window(38) of that", x.window(38), 1);
        x.key(0, 0, 1);
        due("reach: bit 71 is beyond", x.reach(), 1);
        x.mask(15);
        x.key(0, 0, 128);
        due("reach: bit 64 is no more in windows of OTHER", x.reach(), 1);
        x.key(0, 1, 0);
        due("reach: window(31) ends at bit 62", x.reach(), 1);
        x.key(0, 2, 0);
        due("reach: bit 62", x.reach(), 2);
        x.key(-1, -1, 255);
        due("reach: all windows alike", x.reach(), 2);
        // bit 46 ends the window of TO's lowest bit, and stands in those of PORT's three highest
        x.key(0, 1 << 17, 0);
        int[] wanted = {1, 1, 2, 2, 8, 8, 16, 16, 1};
        for (int m = 0; m < wanted.length; m++) {
            x.mask(m);
            due("reach: bit 46, MASK " + m, x.reach(), wanted[m]);
        }
        x.key(0, 8, 0);
        x.mask(16);
        due("reach: bit 60 is in SORT's upper bits alone", x.reach(), 1);
        x.mask(8);
        due("reach: bit 60 is in three of OTHER", x.reach(), 8);
    }

    private static void aim() {
        RxQueues x = new RxQueues();
        x.key(0, 1 << 16, 0);
        due("aim: window(16)", x.window(16), 1);
        x.flow(0, 0, 0, 0, 0);
        x.flow(0, 0, 128, 0, 0);
        due("aim: 0 at 0", x.aim(0, 0), 0);
        due("aim: 0 at 1", x.aim(0, 1), 128);
        due("aim: 0 at 2", x.aim(0, 2), 64);
        due("aim: 0 at 15", x.aim(0, 15), 240);
        due("aim: 1 at 0, its own PORT counts no more", x.aim(1, 0), 0);
        due("aim: 1 at 1", x.aim(1, 1), 128);
        due("aim: entry 16", x.aim(0, 16), -1);
        due("aim: entry -1", x.aim(0, -1), -1);
        due("aim: flow 2", x.aim(2, 0), -1);
        due("aim: flow -1", x.aim(-1, 0), -1);
        x.mask(27);
        due("aim: PORT does not count", x.aim(0, 1), -1);
        due("aim: PORT does not count, hit all the same", x.aim(1, 0), 0);
    }

    private static void spread() {
        RxQueues x = new RxQueues();
        due("spread: no flows", x.spread(0), -1);
        due("spread: no flows, 1", x.spread(1), -1);
        x.flow(0, 0, 0, 0, 0);
        due("spread: one flow", x.spread(0), 0);
        due("spread: one flow, 1", x.spread(1), 1);
        x.flow(1, 0, 0, 0, 0);
        // FROM 1 is bit 7: its window ends with bits 35 .. 38, those of a byte 3 .. 6; byte 2 is the least with one
        due("spread: two flows", x.spread(0), 2);
        due("spread: two flows, 1", x.spread(1), 2);
        due("spread: 2", x.spread(2), -1);
        due("spread: -1", x.spread(-1), -1);
        due("spread: on paper", x.window(0), 0);
        due("spread: nothing to be undone for it", x.count(9), 2);
        x.mask(30);
        due("spread: FROM does not count", x.spread(0), 0);
        due("spread: FROM does not count, 1", x.spread(1), 1);
    }

    private static void alike() {
        RxQueues x = new RxQueues();
        due("alike: no flows", x.alike(), -1);
        x.key(1, 0, 0);
        x.flow(1, 0, 0, 0, 0);
        due("alike: one", x.alike(), -1);
        x.flow(2, 0, 0, 0, 0);
        x.flow(3, 0, 0, 0, 0);
        due("alike: none", x.alike(), -1);
        x.flow(3, 0, 0, 0, 1);
        due("alike: SORT's window is 0", x.alike(), 203);
        x.flow(2, 0, 0, 0, 1);
        due("alike: a lesser one ahead", x.alike(), 104);
        x.mask(30);
        due("alike: all", x.alike(), 1);
    }

    /** As many flows as there can be, asked for all that looks at every flow. */
    private static void allFlows() {
        RxQueues x = new RxQueues();
        for (int f = 0; f < 24; f++) {
            x.flow(0, 0, 0, f, 0);
        }
        due("all: alike", x.alike(), 1);
        x.key(0, 0x01010101, 1);
        due("all: none alike", x.alike(), -1);
        due("all: spread, most entries", x.spread(1), 16);
        for (int f = 18; f < 24; f++) {
            x.steer(f, 3);
        }
        x.reads(23, 1);
        x.terms(6, 1);
        x.terms(2, 5);
        due("all: burst", x.burst(4, 20, 10), 20);
        due("all: would", x.would(6, 3), 1);
        due("all: tick", x.tick(4), 20);
        due("all: queue(3, 6)", x.queue(3, 6) >>> 18, 31);
        due("all: a rule that followed", x.of(23, 13), 1);
        due("all: retire", x.retire(3), 4);
        due("all: rules left", x.count(2), 1);
        due("all: find", x.find(0, 0, 0, 23, 0), 23);
        due("all: of(24, 0)", x.of(24, 0), -1);
        due("all: came", x.count(5), 20);
        x.tick(6);
        due("all: too old", x.count(2), 0);
        RxQueues y = new RxQueues();
        for (int f = 0; f < 24; f++) {
            y.flow(f, 0, 0, 0, 0);
        }
        y.steer(0, 1);
        y.retire(0);
        due("all: a rule to another queue stays as it is", y.of(0, 14), 0);
        y.tick(30);
        y.steer(0, 1);
        y.tick(30);
        due("all: a rule that is not old stays as it is", y.of(0, 14), 30);
    }
}
