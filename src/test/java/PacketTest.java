/** Promises 11 to 14, 22, 24, 26 and 27: terms, packets that come, bursts, gaps and what waits. */
public final class PacketTest {
    private static final Check CHECK = new Check();

    public static void main(String[] args) {
        terms();
        packets();
        sticking();
        room();
        marking();
        bursts();
        gaps();
        flowTold();
        missing();
        queueTold();
        waiting();
        CHECK.finish();
    }

    private static void due(String call, long got, long want) {
        CHECK.due(call, got, want);
    }

    /** Flows 0, 1, 2 of entries 1, 2, 4 (queues 1, 2, 0). */
    private static RxQueues withFlows() {
        RxQueues x = new RxQueues();
        x.key(1, 0, 0);
        x.flow(128, 0, 0, 0, 0);
        x.flow(64, 0, 0, 0, 0);
        x.flow(32, 0, 0, 0, 0);
        return x;
    }

    private static void terms() {
        int[] first = {16, 8, 40, 4000, 40, 1024, 0, 0, 12};
        int[] least = {1, 1, 1, 1, 0, 64, 0, 0, 1};
        int[] most = {32, 32, 999, 9999, 64, 4096, 1, 256, 32};
        RxQueues x = new RxQueues();
        for (int t = 0; t < 9; t++) {
            due("terms: least of " + t, x.terms(t, least[t]), first[t]);
            due("terms: most of " + t, x.terms(t, most[t]), least[t]);
            due("terms: below " + t, x.terms(t, least[t] - 1), -1);
            due("terms: above " + t, x.terms(t, most[t] + 1), -1);
            due("terms: count of " + t, x.count(14 + t), most[t]);
        }
        due("terms: 9", x.terms(9, 1), -1);
        due("terms: -1", x.terms(-1, 1), -1);
        due("terms: count(10)", x.count(10), 20);
        due("terms: status()", x.status(), -1);
    }

    private static void packets() {
        RxQueues x = withFlows();
        due("packet: size 1", x.packet(0, 1, false), 1);
        due("packet: size 1500", x.packet(0, 1500, true), 1);
        due("packet: size 0", x.packet(0, 0, false), -1);
        due("packet: size 1501", x.packet(0, 1501, false), -1);
        due("packet: no flow", x.packet(3, 1, false), -2);
        due("packet: no flow -1", x.packet(-1, 1, false), -2);
        due("packet: no flow 24", x.packet(24, 1, false), -2);
        due("packet: -1 ahead of -2", x.packet(3, 0, false), -1);
        due("packet: count(10)", x.count(10), 3);
        due("packet: count(11)", x.count(11), 3);
        due("packet: NEXT", x.of(0, 9), 1501);
        due("packet: other queues", x.packet(1, 5, false), 2);
        due("packet: other queues", x.packet(2, 5, false), 0);
        due("packet: count(4)", x.count(4), 4);
        due("packet: count(5)", x.count(5), 4);
        x.steer(1, 3);
        due("packet: USED at 0", x.of(1, 14), 0);
        x.tick(2);
        x.packet(1, 5, false);
        due("packet: USED of its rule is TIME", x.of(1, 14), 2);
        x.terms(0, 1);
        x.tick(1);
        due("packet: lost", x.packet(1, 5, false), 4);
        due("packet: USED by a lost one", x.of(1, 14), 3);
        due("packet: a flow without rule has no USED", x.of(0, 14), -1);
    }

    private static void sticking() {
        RxQueues x = withFlows();
        x.packet(0, 10, false);
        x.table(1, 3);
        due("stick: to the old queue", x.packet(0, 10, false), 1);
        due("stick: of(0, 12)", x.of(0, 12), 1);
        due("stick: of(0, 6)", x.of(0, 6), 3);
        due("stick: of(0, 7)", x.of(0, 7), 1);
        x.terms(0, 2);
        due("stick: lost", x.packet(0, 10, false), 4);
        due("stick: lost ones, too", x.of(0, 12), 2);
        due("stick: lost by the old queue", x.queue(1, 5), 1);
        x.steer(0, 1);
        x.packet(0, 10, false);
        due("stick: the wish is where it is", x.of(0, 12), 2);
        x.steer(0, 2);
        x.poll(1);
        due("stick: no more", x.packet(0, 10, false), 2);
        due("stick: count(7)", x.count(7), 2);
        x.key(0, 0, 0);
        x.free(0);
        x.packet(0, 10, false);
        due("stick: by another key", x.count(7), 3);
        due("stick: still there", x.queue(2, 0), 2);
        due("stick: hits of the new entry", x.entry(0, 1), 1);
    }

    private static void room() {
        RxQueues x = withFlows();
        for (int i = 0; i < 16; i++) {
            due("room: " + i, x.packet(0, 10, false), 1);
        }
        due("room: lost", x.packet(0, 10, false), 4);
        due("room: NEXT", x.of(0, 9), 170);
        due("room: CAME", x.of(0, 10), 17);
        due("room: LOST", x.of(0, 11), 1);
        due("room: queue's LOST", x.queue(1, 5), 1);
        due("room: count(6)", x.count(6), 1);
        due("room: FRESH", x.queue(1, 8), 16);
        x.terms(0, 3);
        due("room: fewer than wait", x.packet(0, 10, false), 4);
        due("room: those stay", x.queue(1, 0), 16);
        x.terms(0, 32);
        for (int i = 0; i < 16; i++) {
            due("room: 16 and " + i, x.packet(0, 10, false), 1);
        }
        due("room: 33", x.packet(0, 10, false), 4);
        due("room: the place behind lost ones", x.waits(1, 16, 1), 180);
    }

    private static void marking() {
        RxQueues x = withFlows();
        x.terms(8, 3);
        x.terms(0, 4);
        x.packet(0, 10, false);
        x.packet(0, 10, false);
        due("mark: below FULL", x.of(0, 18), 0);
        x.packet(0, 10, false);
        due("mark: FULL with it", x.of(0, 18), 1);
        x.packet(0, 10, false);
        x.packet(0, 10, false);
        due("mark: lost ones not", x.of(0, 18), 2);
        due("mark: count(24)", x.count(24), 2);
        x.poll(1);
        due("mark: taken ones stay counted", x.count(24), 2);
    }

    private static void bursts() {
        RxQueues x = withFlows();
        due("burst: from 1 on, round", x.burst(1, 4, 100), 4);
        due("burst: CAME of 0", x.of(0, 10), 1);
        due("burst: CAME of 1", x.of(1, 10), 2);
        due("burst: CAME of 2", x.of(2, 10), 1);
        due("burst: not pressed", x.waits(2, 0, 3), 0);
        x.terms(0, 1);
        due("burst: all lost", x.burst(0, 3, 1), 0);
        x.poll(1);
        due("burst: one not lost", x.burst(0, 3, 1), 1);
        due("burst: n 0", x.burst(0, 0, 1), -1);
        due("burst: n 21", x.burst(0, 21, 1), -1);
        due("burst: size 0", x.burst(0, 1, 0), -1);
        due("burst: size 1501", x.burst(0, 1, 1501), -1);
        due("burst: no flow", x.burst(3, 1, 1), -2);
        due("burst: no flow -1", x.burst(-1, 1, 1), -2);
        due("burst: -1 ahead of -2", x.burst(3, 0, 1), -1);
        due("burst: count(9)", x.count(9), 8);
        RxQueues y = new RxQueues();
        due("burst: no flows", y.burst(0, 1, 1), -2);
        y.flow(0, 0, 0, 0, 0);
        due("burst: 20 of one flow", y.burst(0, 20, 1500), 16);
        due("burst: NEXT", y.of(0, 9), 30000);
    }

    private static void gaps() {
        RxQueues x = withFlows();
        due("gap: 1", x.gap(0, 1), 1);
        due("gap: 9999", x.gap(0, 9999), 10000);
        due("gap: 0", x.gap(0, 0), -1);
        due("gap: 10000", x.gap(0, 10000), -1);
        due("gap: no flow", x.gap(3, 1), -2);
        due("gap: no flow -1", x.gap(-1, 1), -2);
        due("gap: -1 ahead of -2", x.gap(3, 0), -1);
        due("gap: nothing came", x.of(0, 10), 0);
        due("gap: no hits", x.entry(1, 1), 0);
        x.packet(0, 7, false);
        due("gap: PLACE behind", x.waits(1, 0, 1), 10000);
        // beyond the 512 calls that are promised, but it shows the bound
        RxQueues y = new RxQueues();
        y.flow(0, 0, 0, 0, 0);
        y.flow(1, 0, 0, 0, 0);
        for (int i = 0; i < 100010; i++) {
            y.gap(0, 9999);
        }
        due("gap: 999,999,990 at most", y.of(0, 9), 999999990);
        due("gap: above", y.gap(0, 11), -4);
        due("packet: above", y.packet(0, 11, false), -4);
        due("burst: above, of any", y.burst(1, 2, 11), -4);
        due("burst: above, by the second of one", y.burst(0, 3, 6), -4);
        due("burst: -4 changes nothing", y.count(5), 0);
        due("packet: not above", y.packet(0, 10, false), 0);
        due("packet: at the bound", y.of(0, 9), 1000000000);
        due("packet: at the bound, one more", y.packet(0, 1, false), -4);
        y.undo();
        due("gap: not above", y.gap(0, 10), 1000000000);
        y.undo();
        y.flow(2, 0, 0, 0, 0);
        due("burst: above, by the last of three", y.burst(1, 3, 11), -4);
        due("burst: ends ahead of it", y.burst(1, 2, 11), 2);
        y.undo();
        due("burst: above, by the fourth", y.burst(0, 4, 6), -4);
        due("burst: two rounds reach the bound", y.burst(0, 4, 5), 4);
        due("burst: at the bound", y.burst(0, 1, 1), -4);
        due("gap: at the bound", y.gap(0, 1), -4);
        due("gap: status()", y.status(), -4);
        due("gap: another flow", y.gap(1, 1), 6);
        due("gap: -1 ahead of -4", y.gap(0, 0), -1);
    }

    private static void flowTold() {
        RxQueues x = withFlows();
        x.packet(0, 10, false);
        x.packet(0, 20, true);
        x.packet(0, 30, false);
        int[] early = {128, 0, 0, 0, 0, 1, 1, 1, 3, 60, 3, 0, 0, -1, -1, 0, 0, -1, 0, 0};
        for (int w = 0; w < 20; w++) {
            due("of(0, " + w + ")", x.of(0, w), early[w]);
        }
        x.reads(0, 2);
        x.steer(0, 3);
        x.poll(1);
        int[] late = {128, 0, 0, 0, 0, 1, 3, -1, 0, 60, 3, 0, 0, 3, 0, 60, 2, 2, 0, 60};
        for (int w = 0; w < 20; w++) {
            due("then of(0, " + w + ")", x.of(0, w), late[w]);
        }
        due("of(0, 20)", x.of(0, 20), -1);
        due("of(0, -1)", x.of(0, -1), -1);
        due("of(3, 0)", x.of(3, 0), -1);
        due("of(-1, 0)", x.of(-1, 0), -1);
        due("of(24, 0)", x.of(24, 0), -1);
    }

    private static void missing() {
        RxQueues x = withFlows();
        due("missing: nothing came", x.missing(0, 0), 0);
        due("missing: nothing came, 1", x.missing(0, 1), 0);
        x.gap(0, 30);
        due("missing: a gap ahead of all", x.missing(0, 1), 30);
        x.packet(0, 10, false);
        x.gap(0, 50);
        x.gap(0, 5);
        due("missing: at the end, in one row", x.missing(0, 1), 55);
        due("missing: in all", x.missing(0, 0), 85);
        x.packet(0, 10, false);
        due("missing: what waits does not", x.missing(0, 0), 85);
        x.terms(0, 2);
        x.packet(0, 40, false);
        x.gap(0, 20);
        due("missing: lost and gap in one row", x.missing(0, 1), 60);
        due("missing: lost ones", x.missing(0, 0), 145);
        x.poll(1);
        due("missing: no holes ahead of what was given", x.missing(0, 1), 60);
        x.packet(0, 1, false);
        x.packet(0, 1, false);
        due("missing: between given and waiting", x.missing(0, 1), 60);
        x.poll(1);
        due("missing: all ahead was given", x.missing(0, 1), 0);
        due("missing: but never taken", x.missing(0, 0), 145);
        due("missing: 2", x.missing(0, 2), -1);
        due("missing: -1", x.missing(0, -1), -1);
        due("missing: no flow", x.missing(3, 0), -1);
        due("missing: no flow, 1", x.missing(-1, 1), -1);
        due("missing: another flow", x.missing(1, 0), 0);
    }

    private static void queueTold() {
        RxQueues x = withFlows();
        x.terms(0, 20);
        x.tick(3);
        x.burst(0, 20, 1);
        x.burst(0, 20, 1);
        x.burst(0, 20, 1);
        x.steer(2, 1);
        x.packet(0, 1, false);
        int[] early = {20, 4, 3, 0, 0, 2, 5, 0, 20, 0x2222};
        for (int w = 0; w < 10; w++) {
            due("queue(1, " + w + ")", x.queue(1, w), early[w]);
        }
        x.tick(2);
        int[] late = {4, 8, 4, 1, 16, 2, 5, 35, 0, 0x2222};
        for (int w = 0; w < 10; w++) {
            due("then queue(1, " + w + ")", x.queue(1, w), late[w]);
        }
        due("queue(1, 10)", x.queue(1, 10), -1);
        due("queue(1, -1)", x.queue(1, -1), -1);
        due("queue(4, 0)", x.queue(4, 0), -1);
        due("queue(-1, 0)", x.queue(-1, 0), -1);
        due("queue(4, 6)", x.queue(4, 6), -1);
        due("queue(4, 9)", x.queue(4, 9), -1);
    }

    private static void waiting() {
        RxQueues x = withFlows();
        x.steer(1, 1);
        x.packet(0, 10, false);
        x.packet(1, 20, true);
        x.packet(0, 30, true);
        int[][] want = {{0, 0, 10, 0}, {1, 0, 20, 1}, {0, 10, 30, 1}};
        for (int i = 0; i < 3; i++) {
            for (int w = 0; w < 4; w++) {
                due("waits(1, " + i + ", " + w + ")", x.waits(1, i, w), want[i][w]);
            }
            due("waits(1, i, 4)", x.waits(1, i, 4), -1);
            due("waits(1, i, -1)", x.waits(1, i, -1), -1);
        }
        due("waits(1, 3, 0)", x.waits(1, 3, 0), -1);
        due("waits(1, -1, 0)", x.waits(1, -1, 0), -1);
        due("waits(0, 0, 0)", x.waits(0, 0, 0), -1);
        due("waits(4, 0, 0)", x.waits(4, 0, 0), -1);
        due("waits(-1, 0, 0)", x.waits(-1, 0, 0), -1);
        x.terms(0, 32);
        x.terms(1, 32);
        for (int i = 0; i < 15; i++) {
            x.packet(1, 1, false);
        }
        x.poll(1);
        due("waits: behind a batch of 16, flow", x.waits(1, 0, 0), 1);
        due("waits: behind a batch of 16, place", x.waits(1, 0, 1), 33);
        due("waits: two are left", x.waits(1, 2, 0), -1);
    }
}
