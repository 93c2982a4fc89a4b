/** Promises 6, 8 and 37: balancing, retiring, and how a table shares the load. */
public final class TableTest {
    private static final Check CHECK = new Check();

    public static void main(String[] args) {
        load();
        balance();
        balanceOfNothing();
        retire();
        retireOfAll();
        retiredRules();
        CHECK.finish();
    }

    private static void due(String call, long got, long want) {
        CHECK.due(call, got, want);
    }

    /** Hits of entries 0 .. : with key 1, 0, 0 the entry is the high half of FROM with its bits turned round. */
    private static RxQueues withHits(int... hits) {
        RxQueues x = new RxQueues();
        x.key(1, 0, 0);
        for (int e = 0; e < hits.length; e++) {
            int from = Integer.reverse(e) >>> 24;
            int f = x.flow(from, 0, 0, 0, 0);
            due("entry of flow", x.of(f, 5), e);
            for (int i = 0; i < hits[e]; i++) {
                x.packet(f, 1, false);
            }
        }
        return x;
    }

    private static void entriesAre(String text, RxQueues x, int... queues) {
        for (int e = 0; e < 16; e++) {
            due(text + ": entry(" + e + ", 0)", x.entry(e, 0), queues[e]);
        }
    }

    private static RxQueues usual() {
        return withHits(5, 4, 2, 2, 3, 0, 0, 0, 3);
    }

    private static void load() {
        RxQueues x = usual();
        due("load: most", x.load(0), 11);
        due("load: least", x.load(1), 2);
        due("load: most by a balanced one", x.load(2), 5);
        due("load: on paper", x.entry(4, 0), 0);
        due("load: hits stay", x.entry(0, 1), 5);
        due("load: 3", x.load(3), -1);
        due("load: -1", x.load(-1), -1);
        for (int e = 0; e < 16; e++) {
            x.table(e, 1);
        }
        due("load: one queue has all", x.load(0), 19);
        due("load: a queue without entries", x.load(1), 0);
        due("load: balanced", x.load(2), 5);
    }

    private static void balance() {
        RxQueues x = usual();
        due("balance: moved", x.balance(), 9);
        entriesAre("balance", x, 0, 1, 2, 3, 2, 1, 1, 1, 3, 1, 1, 1, 1, 1, 1, 1);
        for (int e = 0; e < 16; e++) {
            due("balance: hits are 0", x.entry(e, 1), 0);
        }
        due("balance: packets stay", x.queue(0, 0), 11);
        due("balance: status()", x.status(), 0);
        due("balance: load", x.load(0), 0);
        x.packet(4, 1, false);
        due("balance: a flow sticks", x.of(4, 12), 1);
        due("balance: of(4, 6)", x.of(4, 6), 2);
        RxQueues y = withHits(1, 2, 3, 4);
        due("balance: falling hits", y.balance(), 13);
        entriesAre("falling", y, 3, 2, 1, 0, 3, 3, 3, 3, 3, 3, 3, 3, 3, 3, 3, 3);
    }

    private static void balanceOfNothing() {
        RxQueues x = new RxQueues();
        due("balance: nothing hit", x.balance(), 12);
        entriesAre("nothing", x, 0, 0, 0, 0, 0, 0, 0, 0, 0, 0, 0, 0, 0, 0, 0, 0);
        due("balance: again", x.balance(), 0);
    }

    private static void retire() {
        RxQueues x = usual();
        due("retire: -1", x.retire(-1), -1);
        due("retire: 4", x.retire(4), -1);
        due("retire: status()", x.status(), -1);
        due("retire: 0", x.retire(0), 4);
        entriesAre("retire", x, 2, 1, 2, 3, 3, 1, 2, 3, 1, 1, 2, 3, 3, 1, 2, 3);
        due("retire: queue(0, 9)", x.queue(0, 9), 0);
        due("retire: packets in it stay", x.queue(0, 0), 11);
        due("retire: hits stay", x.entry(0, 1), 5);
        due("retire: again", x.retire(0), 0);
        x.packet(0, 1, false);
        due("retire: a flow that waits there sticks", x.queue(0, 0), 12);
        due("retire: table() may give to it", x.table(9, 0), 1);
        due("retire: 0 again", x.retire(0), 1);
        due("retire: least by hits", x.entry(9, 0), 3);
    }

    private static void retireOfAll() {
        RxQueues x = new RxQueues();
        due("retire: without hits", x.retire(0), 4);
        entriesAre("without hits", x, 1, 1, 2, 3, 1, 1, 2, 3, 1, 1, 2, 3, 1, 1, 2, 3);
        due("retire: 1", x.retire(1), 8);
        due("retire: to the least number", x.entry(0, 0), 0);
        due("retire: 3", x.retire(3), 4);
        due("retire: 2", x.retire(2), 4);
        due("retire: 0", x.retire(0), 16);
        due("retire: all have gone to 1", x.queue(1, 9), 0xFFFF);
    }

    private static void retiredRules() {
        RxQueues x = usual();
        x.steer(0, 3);
        x.steer(1, 2);
        x.steer(2, 3);
        due("retire: 3", x.retire(3), 4);
        due("retire: rules to it go", x.count(2), 1);
        due("retire: of(0, 13)", x.of(0, 13), -1);
        due("retire: of(0, 14)", x.of(0, 14), -1);
        due("retire: of(1, 13)", x.of(1, 13), 2);
        due("retire: steer() may lead to it", x.steer(0, 3), -1);
        due("retire: of(0, 6)", x.of(0, 6), 3);
    }
}
