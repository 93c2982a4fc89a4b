/** Promises 15, 16, 28, 29 and 35: ticks, calls, batches, segments and what was given in all. */
public final class TickTest {
    private static final Check CHECK = new Check();

    public static void main(String[] args) {
        numbers();
        many();
        delays();
        delayOfSmallMany();
        pace();
        batches();
        polls();
        joining();
        order();
        pages();
        lastTwelve();
        givenAndRatio();
        CHECK.finish();
    }

    private static void due(String call, long got, long want) {
        CHECK.due(call, got, want);
    }

    /** All flows hit entry 0, so all go to queue 0. */
    private static RxQueues withFlows(int n) {
        RxQueues x = new RxQueues();
        for (int i = 0; i < n; i++) {
            x.flow(i, 0, 0, 0, 0);
        }
        return x;
    }

    private static void numbers() {
        RxQueues x = new RxQueues();
        due("tick: 0", x.tick(0), -1);
        due("tick: 101", x.tick(101), -1);
        due("tick: -1", x.tick(-1), -1);
        due("tick: 1", x.tick(1), 0);
        due("tick: 100", x.tick(100), 0);
        due("tick: count(0)", x.count(0), 101);
        // beyond the 512 calls that are promised, but it shows the bound
        for (int i = 0; i < 998; i++) {
            x.tick(100);
        }
        due("tick: TIME", x.count(0), 99901);
        due("tick: 99", x.tick(99), -4);
        due("tick: status()", x.status(), -4);
        due("would: above", x.would(99, 0), -1);
        due("would: 98", x.would(98, 0), 0);
        x.tick(95);
        x.flow(0, 0, 0, 0, 0);
        x.packet(0, 1, false);
        due("nextCall: not by then", x.nextCall(0), -1);
        due("drain: not by then", x.drain(), -1);
        x.undo();
        x.undo();
        x.undo();
        x.tick(94);
        x.flow(0, 0, 0, 0, 0);
        x.packet(0, 1, false);
        due("nextCall: at TIME 99,999", x.nextCall(0), 4);
        due("drain: at TIME 99,999", x.drain(), 4);
        due("tick: to the end", x.tick(4), 1);
        due("tick: -1 ahead of -4", x.tick(0), -1);
        due("tick: no more", x.tick(1), -4);
        due("drain: 0 at the end of TIME", x.drain(), 0);
    }

    private static void many() {
        RxQueues x = withFlows(1);
        x.burst(0, 7, 10);
        due("many: 7 are not", x.tick(1), 0);
        x.packet(0, 10, false);
        due("many: 8 are", x.tick(1), 1);
        due("many: DELAY", x.queue(0, 1), 8);
        due("many: SINCE", x.queue(0, 2), -1);
        due("many: CALLS", x.queue(0, 3), 1);
        due("many: taken", x.queue(0, 4), 8);
        due("many: count(8)", x.count(8), 1);
        due("many: segment", x.segment(0, 3), 8);
        x.terms(1, 1);
        x.packet(0, 10, false);
        due("many: 1", x.tick(1), 1);
        x.burst(0, 3, 10);
        due("many: one call a tick and queue", x.tick(3), 1);
        due("many: CALLS again", x.queue(0, 3), 3);
    }

    private static void delays() {
        RxQueues x = withFlows(1);
        int[] wait = {4, 2, 1, 1, 1};
        for (int w : wait) {
            due("delay: DELAY " + w, x.queue(0, 1), w);
            x.packet(0, 10, false);
            if (w > 1) {
                due("delay: not yet " + w, x.tick(w - 1), 0);
            }
            due("delay: now " + w, x.tick(1), 1);
        }
        for (int want : new int[] {2, 4, 8, 16, 16}) {
            x.burst(0, 8, 10);
            x.tick(1);
            due("delay: twice it", x.queue(0, 1), want);
        }
        x.burst(0, 3, 10);
        due("delay: 15", x.tick(15), 0);
        due("delay: 16", x.tick(1), 1);
        due("delay: 3 teach nothing", x.queue(0, 1), 16);
        x.burst(0, 2, 10);
        x.tick(16);
        due("delay: 2 do", x.queue(0, 1), 8);
        RxQueues y = withFlows(1);
        y.tick(5);
        y.packet(0, 10, false);
        due("delay: SINCE is TIME", y.queue(0, 2), 5);
        y.tick(2);
        y.packet(0, 10, false);
        due("delay: SINCE is of the first", y.queue(0, 2), 5);
        due("delay: 9 less 5", y.tick(2), 1);
    }

    /** A batch that is MANY or more and 2 at most: twice it comes first in the document, and is taken alone. */
    private static void delayOfSmallMany() {
        RxQueues x = withFlows(1);
        x.terms(1, 2);
        x.burst(0, 2, 10);
        x.tick(1);
        due("delay: MANY 2", x.queue(0, 1), 8);
        x.terms(1, 32);
        x.terms(0, 32);
        x.burst(0, 20, 10);
        x.burst(0, 12, 10);
        x.tick(1);
        due("delay: 32 wait, 16 are a batch below MANY", x.queue(0, 1), 8);
        due("delay: 16 are left", x.queue(0, 0), 16);
    }

    private static void pace() {
        RxQueues x = withFlows(1);
        x.burst(0, 8, 10);
        due("pace: FRESH", x.queue(0, 8), 8);
        x.tick(1);
        due("pace: 8 by a tick", x.queue(0, 7), 16);
        due("pace: FRESH again", x.queue(0, 8), 0);
        int[] falls = {14, 13, 12, 11, 10, 9, 8, 7, 7};
        for (int want : falls) {
            x.tick(1);
            due("pace: falls, cut towards 0", x.queue(0, 7), want);
        }
        x.packet(0, 10, false);
        x.tick(1);
        due("pace: 7 and 9 by 8", x.queue(0, 7), 8);
        RxQueues y = withFlows(1);
        y.terms(7, 6);
        y.burst(0, 3, 10);
        due("slow: PACE 6 is not below 6", y.tick(1), 0);
        y.terms(7, 7);
        due("slow: but below 7", y.tick(1), 1);
        RxQueues z = withFlows(1);
        z.terms(7, 1);
        due("slow: nothing waits", z.tick(1), 0);
        z.packet(0, 10, false);
        due("slow: its own coming is in the pace", z.tick(1), 0);
        due("slow: CALLS", z.queue(0, 3), 0);
    }

    private static void batches() {
        RxQueues x = withFlows(1);
        x.terms(0, 32);
        x.burst(0, 20, 10);
        due("batch: 16 at most", x.tick(1), 1);
        due("batch: left", x.queue(0, 0), 4);
        due("batch: SINCE is TIME", x.queue(0, 2), 1);
        due("batch: DELAY", x.queue(0, 1), 8);
        due("batch: of(0, 8)", x.of(0, 8), 4);
        due("batch: of(0, 7)", x.of(0, 7), 0);
        due("batch: 7 ticks", x.tick(7), 0);
        due("batch: the rest", x.tick(1), 1);
        due("batch: DELAY stays", x.queue(0, 1), 8);
        due("batch: its place", x.segment(0, 1), 160);
        due("batch: of(0, 7) then", x.of(0, 7), -1);
    }

    private static void polls() {
        RxQueues x = withFlows(1);
        due("poll: -1", x.poll(-1), -1);
        due("poll: 4", x.poll(4), -1);
        due("poll: empty", x.poll(0), -4);
        due("poll: status()", x.status(), -4);
        x.terms(0, 32);
        x.terms(1, 32);
        x.burst(0, 20, 10);
        x.tick(3);
        due("poll: 16", x.poll(0), 16);
        due("poll: SINCE", x.queue(0, 2), 3);
        due("poll: nothing learnt", x.queue(0, 1), 4);
        due("poll: CALLS", x.queue(0, 3), 1);
        due("poll: 4 more", x.poll(0), 4);
        due("poll: SINCE none", x.queue(0, 2), -1);
        due("poll: taken", x.queue(0, 4), 20);
        x.packet(0, 10, false);
        due("poll: one", x.poll(0), 1);
        due("poll: nothing learnt of one", x.queue(0, 1), 4);
        due("poll: count(8)", x.count(8), 3);
        due("poll: FRESH stays", x.queue(0, 8), 1);
    }

    private static void joining() {
        RxQueues x = withFlows(1);
        x.terms(3, 100);
        x.packet(0, 60, false);
        x.packet(0, 40, false);
        x.packet(0, 1, false);
        x.poll(0);
        due("join: LONGEST is enough", x.segment(1, 2), 100);
        due("join: beyond a new one", x.segment(0, 2), 1);
        due("join: its place", x.segment(0, 1), 100);
        x.packet(0, 500, false);
        x.packet(0, 1, false);
        x.poll(0);
        due("join: longer than LONGEST", x.segment(1, 2), 500);
        due("join: nothing joins that", x.segment(0, 2), 1);
        x.packet(0, 10, false);
        x.gap(0, 1);
        x.packet(0, 10, false);
        x.poll(0);
        due("join: not over a gap", x.given(0), 6);
        x.packet(0, 10, false);
        x.packet(0, 10, true);
        x.packet(0, 10, false);
        x.poll(0);
        due("join: pressed is closed with it", x.segment(1, 3), 2);
        due("join: behind it a new one", x.segment(0, 3), 1);
        x.terms(0, 1);
        x.packet(0, 10, false);
        x.packet(0, 10, false);
        x.poll(0);
        x.packet(0, 10, false);
        x.poll(0);
        due("join: not over batches", x.segment(0, 3), 1);
        due("join: of(0, 15)", x.of(0, 15), x.of(0, 9));
    }

    private static void order() {
        RxQueues x = withFlows(3);
        x.packet(2, 10, false);
        x.packet(1, 10, false);
        x.packet(0, 10, true);
        x.packet(1, 10, false);
        x.gap(1, 5);
        x.packet(1, 7, false);
        x.packet(0, 10, false);
        x.tick(4);
        int[] flows = {2, 1, 0, 1, 0};
        int[] packets = {1, 1, 1, 2, 1};
        for (int ago = 0; ago < 5; ago++) {
            due("order: flow of " + ago, x.segment(ago, 0), flows[ago]);
            due("order: packets of " + ago, x.segment(ago, 3), packets[ago]);
        }
        due("order: given", x.given(0), 5);
        due("order: of(1, 16)", x.of(1, 16), 2);
        due("order: of(1, 15)", x.of(1, 15), 32);
        due("order: of(1, 19)", x.of(1, 19), 27);
    }

    private static void pages() {
        RxQueues x = withFlows(1);
        int[][] want = {{39, 0, 39}, {40, 0, 40}, {41, 1, 40}, {1064, 1, 40}, {1065, 2, 40}};
        for (int[] w : want) {
            x.packet(0, w[0], false);
            x.poll(0);
            due("pages: LONG " + w[0], x.segment(0, 2), w[0]);
            due("pages: PAGES of " + w[0], x.segment(0, 4), w[1]);
            due("pages: apart of " + w[0], x.segment(0, 5), w[2]);
        }
        due("pages: heads", x.given(3), 5);
        due("pages: apart in all", x.given(4), 199);
        due("pages: BYTES in all", x.given(5), 1 + 1024 + 1025);
        due("pages: PAGES in all", x.given(6), 4);
        x.terms(4, 0);
        x.terms(5, 64);
        x.packet(0, 128, false);
        x.poll(0);
        due("pages: no head", x.segment(0, 5), 0);
        due("pages: two of 64", x.segment(0, 4), 2);
        due("pages: a head of 0 is none", x.given(3), 5);
        due("pages: first segments stay as given", x.segment(1, 4), 2);
        due("pages: what 6", x.segment(0, 6), -1);
        due("pages: what -1", x.segment(0, -1), -1);
    }

    private static void lastTwelve() {
        RxQueues x = withFlows(1);
        x.terms(3, 1);
        for (int i = 1; i <= 13; i++) {
            due("twelve: not yet " + i, x.segment(i - 1, 2), -1);
            x.packet(0, i, false);
            x.poll(0);
        }
        for (int ago = 0; ago < 12; ago++) {
            due("twelve: " + ago, x.segment(ago, 2), 13 - ago);
        }
        due("twelve: the 13th", x.segment(12, 2), -1);
        due("twelve: -1", x.segment(-1, 2), -1);
        due("twelve: in all", x.given(0), 13);
    }

    private static void givenAndRatio() {
        RxQueues x = withFlows(2);
        for (int w = -1; w < 5; w++) {
            due("ratio: without any " + w, x.ratio(w), -1);
        }
        x.burst(0, 6, 100);
        x.packet(0, 40, true);
        x.tick(4);
        long[] given = {2, 7, 640, 2, 80, 560, 2};
        for (int w = 0; w < 7; w++) {
            due("given(" + w + ")", x.given(w), given[w]);
        }
        due("given(7)", x.given(7), -1);
        due("given(-1)", x.given(-1), -1);
        long[] ratio = {640, 7, 7, 2};
        for (int w = 0; w < 4; w++) {
            due("ratio(" + w + ")", x.ratio(w), ratio[w]);
        }
        x.packet(0, 5, false);
        x.poll(0);
        long[] then = {645, 8, 8, 3};
        for (int w = 0; w < 4; w++) {
            due("then ratio(" + w + ")", x.ratio(w), then[w]);
        }
        x.packet(0, 3, false);
        x.poll(0);
        long[] last = {72, 1, 9, 4};
        for (int w = 0; w < 4; w++) {
            due("at last ratio(" + w + ")", x.ratio(w), last[w]);
        }
        due("ratio(4)", x.ratio(4), -1);
        due("ratio(-1)", x.ratio(-1), -1);
    }
}
