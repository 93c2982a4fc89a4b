/** Objects in states that several tests begin with. */
final class Made {
    private Made() {
    }

    /** n flows that all hit entry 0 (the key is 0), so without rules all go to queue 0. */
    static RxQueues together(int n) {
        RxQueues x = new RxQueues();
        for (int i = 0; i < n; i++) {
            x.flow(i, 0, 0, 0, 0);
        }
        return x;
    }

    /** A flow for each entry told, in that order; at first the queue of an entry is it modulo 4. */
    static RxQueues onEntries(int... entries) {
        RxQueues x = new RxQueues();
        x.key(1, 0, 0);
        for (int i = 0; i < entries.length; i++) {
            x.flow(fromOf(entries[i]), 0, 0, i, 0);
        }
        return x;
    }

    /** With key 1, 0, 0 the entry is the upper half of FROM with its bits turned round. */
    static int fromOf(int entry) {
        return Integer.reverse(entry) >>> 24;
    }

    /** Has the entries 0, 1, .. hit as often as told, and nothing waiting. */
    static RxQueues withHits(int... hits) {
        int[] entries = new int[hits.length];
        for (int e = 0; e < hits.length; e++) {
            entries[e] = e;
        }
        RxQueues x = onEntries(entries);
        for (int e = 0; e < hits.length; e++) {
            for (int i = 0; i < hits[e]; i++) {
                x.packet(e, 1, false);
                x.poll(e % 4);
            }
        }
        return x;
    }

    static void packets(RxQueues x, int flow, int n, int size) {
        for (int i = 0; i < n; i++) {
            x.packet(flow, size, false);
        }
    }

    /** n packets of flow 0 come to queue 0 and are taken at once, so that they are FRESH and do not wait. */
    static void comeAndGo(RxQueues x, int n) {
        for (int i = 0; i < n; i++) {
            x.packet(0, 1, false);
            x.poll(0);
        }
    }

    /** Takes more calls than are promised, but there is no other way to the end of TIME. */
    static void tickUntil(RxQueues x, int time) {
        while (x.count(0) < time) {
            x.tick(Math.min(100, time - x.count(0)));
        }
    }

    /** Takes more calls than are promised, but there is no other way to the end of PLACES. */
    static void gapUntil(RxQueues x, int flow, int next) {
        while (x.of(flow, 9) < next) {
            x.gap(flow, Math.min(9999, next - x.of(flow, 9)));
        }
    }

    /** Something of all: flows, rules, a reader, packets that wait, were lost, stuck, marked, and were given. */
    static RxQueues busy() {
        RxQueues x = onEntries(1, 2, 0, 3);
        x.terms(6, 1);
        x.terms(1, 7);
        x.terms(8, 3);
        x.terms(0, 6);
        x.reads(0, 3);
        x.burst(0, 20, 300);
        x.tick(4);
        x.steer(1, 0);
        x.table(0, 2);
        x.burst(0, 20, 50);
        x.reads(1, 2);
        x.gap(2, 8);
        x.table(0, 1);
        x.packet(2, 70, true);
        return x;
    }
}
