import java.util.function.ToIntFunction;

/** Every sentence of promises 1 to 19 by its bounds: what acts take and refuse, and what stands behind them. */
public final class ActsTest {
    private static final Sentences S = new Sentences();
    private static final int LEAST = Integer.MIN_VALUE;
    private static final int MOST = Integer.MAX_VALUE;
    private static final int LAST_PLACE = 1000000000;

    public static void main(String[] args) {
        made();
        keyAndMask();
        flowAndTable();
        balanceAndReads();
        retireAndSteer();
        freeAndTerms();
        packet();
        burst();
        gap();
        tick();
        poll();
        undo();
        images();
        S.finishPromises(1, 19);
    }

    private static void due(String call, long got, long want) {
        S.due(call, got, want);
    }

    /** The call is refused by this, told by its answer, by status() and by the counts, and nothing else is changed. */
    private static void refused(String call, RxQueues x, int why, ToIntFunction<RxQueues> body) {
        long before = Look.atAll(x);
        int undone = x.count(9);
        int[] counts = {x.count(10), x.count(11), x.count(12), x.count(13)};
        due(call, body.applyAsInt(x), why);
        due(call + ", status()", x.status(), why);
        int[] told = {-1, -2, -4, -5};
        for (int i = 0; i < 4; i++) {
            due(call + ", count(" + (10 + i) + ")", x.count(10 + i), counts[i] + (told[i] == why ? 1 : 0));
        }
        due(call + ", all as it was", Look.atAll(x), before);
        due(call + ", what can be undone", x.count(9), undone);
    }

    private static void made() {
        S.promise(1);
        S.test("No FLOWS;", () -> {
            RxQueues x = new RxQueues();
            due("count(1)", x.count(1), 0);
            due("of(0, 0)", x.of(0, 0), -1);
            due("find()", x.find(0, 0, 0, 0, 0), -1);
            due("the first number", x.flow(0, 0, 0, 0, 0), 0);
        });
        S.test("KEY 0.", () -> {
            RxQueues x = new RxQueues();
            for (int i = 0; i <= 40; i++) {
                due("window(" + i + ")", x.window(i), 0);
            }
            due("hash()", x.hash(255, 255, 255, 255, 1), 0);
        });
    }

    private static void keyAndMask() {
        S.promise(2);
        S.test("KEY: 0.", () -> {
            RxQueues x = new RxQueues();
            int[] ints = {0, 1, -1, LEAST, MOST};
            for (int a : ints) {
                for (int b : ints) {
                    due("key(" + a + ", " + b + ", 0)", x.key(a, b, 0), 0);
                    due("the first int", x.window(0), a);
                    due("the second int", x.window(32), b);
                }
            }
            due("the same once more", x.key(MOST, MOST, 0), 0);
        });
        S.test("-1 (c 0 .. 255).", () -> {
            RxQueues x = Made.busy();
            due("0", x.key(7, 7, 0), 0);
            due("255", x.key(7, 7, 255), 0);
            for (int c : new int[] {-1, 256, LEAST, MOST}) {
                refused("key(1, 1, " + c + ")", x, -1, y -> y.key(1, 1, c));
            }
        });
        S.promise(3);
        S.test("MASK: what it was.", () -> {
            RxQueues x = new RxQueues();
            int was = 31;
            for (int v = 0; v <= 31; v++) {
                due("mask(" + v + ")", x.mask(v), was);
                was = v;
            }
            due("the same once more", x.mask(31), 31);
        });
        S.test("-1.", () -> {
            RxQueues x = Made.busy();
            for (int v : new int[] {-1, 32, LEAST, MOST}) {
                refused("mask(" + v + ")", x, -1, y -> y.mask(v));
            }
        });
    }

    private static void flowAndTable() {
        S.promise(4);
        S.test("A FLOW of FIELDS: its number (of one that there is, too).", () -> {
            RxQueues x = new RxQueues();
            due("the first", x.flow(0, 0, 0, 0, 0), 0);
            due("the second", x.flow(255, 255, 255, 255, 1), 1);
            due("the first again", x.flow(0, 0, 0, 0, 0), 0);
            due("the second again", x.flow(255, 255, 255, 255, 1), 1);
            due("count(1)", x.count(1), 2);
            due("count(9)", x.count(9), 2);
            RxQueues y = Made.together(24);
            due("one that there is, without room", y.flow(23, 0, 0, 0, 0), 23);
            due("is not REFUSED", y.status(), 0);
        });
        S.test("-1;", () -> {
            RxQueues x = Made.together(24);
            int[][] wrong = {{-1, 0, 0, 0, 0}, {256, 0, 0, 0, 0}, {0, -1, 0, 0, 0}, {0, 256, 0, 0, 0},
                {0, 0, -1, 0, 0}, {0, 0, 256, 0, 0}, {0, 0, 0, -1, 0}, {0, 0, 0, 256, 0}, {0, 0, 0, 0, -1},
                {0, 0, 0, 0, 2}, {LEAST, 0, 0, 0, 0}, {0, 0, 0, 0, MOST}};
            for (int[] w : wrong) {
                refused("flow() of a wrong FIELD", x, -1, y -> y.flow(w[0], w[1], w[2], w[3], w[4]));
            }
        });
        S.test("-5.", () -> {
            RxQueues x = Made.together(23);
            due("the 24th", x.flow(255, 0, 0, 0, 0), 23);
            refused("the 25th", x, -5, y -> y.flow(254, 0, 0, 0, 0));
            x.undo();
            due("room again", x.flow(254, 0, 0, 0, 0), 23);
        });
        S.promise(5);
        S.test("QUEUE of an ENTRY: what it was.", () -> {
            RxQueues x = new RxQueues();
            due("table(0, 3)", x.table(0, 3), 0);
            due("table(0, 0)", x.table(0, 0), 3);
            due("table(15, 0)", x.table(15, 0), 3);
            due("table(15, 3)", x.table(15, 3), 0);
            due("the same once more", x.table(15, 3), 3);
        });
        S.test("-1.", () -> {
            RxQueues x = Made.busy();
            int[][] wrong = {{-1, 0}, {16, 0}, {0, -1}, {0, 4}, {LEAST, 0}, {MOST, 0}, {0, LEAST}, {0, MOST}};
            for (int[] w : wrong) {
                refused("table(" + w[0] + ", " + w[1] + ")", x, -1, y -> y.table(w[0], w[1]));
            }
        });
    }

    private static void balanceAndReads() {
        S.promise(6);
        S.test("BALANCED: how many ENTRIES have another QUEUE then.", () -> {
            RxQueues x = new RxQueues();
            for (int e = 0; e < 16; e++) {
                x.table(e, 1 + e % 3);
            }
            due("all 16", x.balance(), 16);
            due("none", x.balance(), 0);
            x.table(7, 3);
            due("one", x.balance(), 1);
            due("it is never REFUSED", x.status(), 0);
        });
        S.promise(7);
        S.test("READER of a FLOW (QUEUE NONE: none): what it was.", () -> {
            RxQueues x = Made.together(24);
            int[] queues = {0, 3, -1, 1, -1, -1};
            int was = -1;
            for (int q : queues) {
                due("reads(23, " + q + ")", x.reads(23, q), was);
                due("status()", x.status(), 0);
                due("of(23, 17)", x.of(23, 17), q);
                was = q;
            }
            due("of another FLOW", x.of(22, 17), -1);
        });
        S.test("-1;", () -> {
            RxQueues x = Made.busy();
            for (int q : new int[] {-2, 4, LEAST, MOST}) {
                refused("reads(0, " + q + ")", x, -1, y -> y.reads(0, q));
                refused("reads(4, " + q + "), ahead of -2", x, -1, y -> y.reads(4, q));
            }
        });
        S.test("-2.", () -> {
            RxQueues x = Made.busy();
            for (int f : new int[] {-1, 4, 23, 24, LEAST, MOST}) {
                refused("reads(" + f + ", 0)", x, -2, y -> y.reads(f, 0));
                refused("reads(" + f + ", NONE)", x, -2, y -> y.reads(f, -1));
            }
            refused("without FLOWS", new RxQueues(), -2, y -> y.reads(0, 0));
        });
    }

    private static void retireAndSteer() {
        S.promise(8);
        S.test("A QUEUE is RETIRED: how many ENTRIES it had.", () -> {
            RxQueues x = new RxQueues();
            due("4", x.retire(3), 4);
            due("0", x.retire(3), 0);
            x.retire(2);
            x.retire(1);
            for (int e = 0; e < 16; e++) {
                x.table(e, 0);
            }
            due("16", x.retire(0), 16);
            due("to the least other one", x.queue(1, 9), 0xFFFF);
        });
        S.test("-1.", () -> {
            RxQueues x = Made.busy();
            for (int q : new int[] {-1, 4, LEAST, MOST}) {
                refused("retire(" + q + ")", x, -1, y -> y.retire(q));
            }
        });
        S.promise(9);
        S.test("A RULE: the FLOW whose RULE went for it, NONE.", () -> {
            RxQueues x = Made.together(24);
            for (int f = 18; f < 24; f++) {
                due("steer(" + f + ", 3)", x.steer(f, 3), -1);
                due("status()", x.status(), 0);
            }
            due("its own", x.steer(18, 0), -1);
            due("the 7th", x.steer(0, 0), 18);
            due("FLOW 0 is told as 0", x.steer(1, 0), 0);
            x.free(1);
            due("5 are left", x.steer(2, 0), -1);
        });
        S.test("-1 (QUEUE);", () -> {
            RxQueues x = Made.busy();
            for (int q : new int[] {-1, 4, LEAST, MOST}) {
                refused("steer(0, " + q + ")", x, -1, y -> y.steer(0, q));
                refused("steer(4, " + q + "), ahead of -2", x, -1, y -> y.steer(4, q));
            }
        });
        S.test("-2.", () -> {
            RxQueues x = Made.busy();
            for (int f : new int[] {-1, 4, 23, 24, LEAST, MOST}) {
                refused("steer(" + f + ", 0)", x, -2, y -> y.steer(f, 0));
            }
            refused("without FLOWS", new RxQueues(), -2, y -> y.steer(0, 0));
        });
    }

    private static void freeAndTerms() {
        S.promise(10);
        S.test("The RULE of a FLOW goes: its QUEUE.", () -> {
            RxQueues x = Made.together(24);
            x.steer(0, 0);
            x.steer(23, 3);
            due("QUEUE 0", x.free(0), 0);
            due("QUEUE 3", x.free(23), 3);
            due("none is left", x.count(2), 0);
            due("its WISH", x.of(23, 6), 0);
        });
        S.test("-2.", () -> {
            RxQueues x = Made.together(2);
            x.steer(0, 0);
            for (int f : new int[] {-1, 1, 2, 23, 24, LEAST, MOST}) {
                refused("free(" + f + ")", x, -2, y -> y.free(f));
            }
            x.free(0);
            refused("once more", x, -2, y -> y.free(0));
            x.steer(0, 0);
            x.tick(41);
            refused("a RULE that grew old", x, -2, y -> y.free(0));
            refused("without FLOWS", new RxQueues(), -2, y -> y.free(0));
        });
        S.promise(11);
        S.test("A TERM: what it was.", () -> {
            RxQueues x = new RxQueues();
            int[] first = {16, 8, 40, 4000, 40, 1024, 0, 0, 12};
            int[] least = {1, 1, 1, 1, 0, 64, 0, 0, 1};
            int[] most = {32, 32, 999, 9999, 64, 4096, 1, 256, 32};
            for (int t = 0; t < 9; t++) {
                due("the least of " + t, x.terms(t, least[t]), first[t]);
                due("the most of " + t, x.terms(t, most[t]), least[t]);
                due("the same of " + t, x.terms(t, most[t]), most[t]);
            }
        });
        S.test("-1.", () -> {
            RxQueues x = Made.busy();
            for (int t : new int[] {-1, 9, LEAST, MOST}) {
                refused("terms(" + t + ", 1)", x, -1, y -> y.terms(t, 1));
            }
            int[][] wrong = {{0, 33}, {1, 33}, {2, 1000}, {3, 10000}, {4, 65}, {5, 4097}, {6, 2}, {7, 257}, {8, 33}};
            for (int[] w : wrong) {
                int below = w[0] == 5 ? 63 : w[0] == 4 || w[0] == 6 || w[0] == 7 ? -1 : 0;
                for (int v : new int[] {below, w[1], LEAST, MOST}) {
                    refused("terms(" + w[0] + ", " + v + ")", x, -1, y -> y.terms(w[0], v));
                }
            }
        });
    }

    private static void packet() {
        S.promise(12);
        S.test("A PACKET comes: its QUEUE; 4 if it is LOST.", () -> {
            RxQueues x = Made.onEntries(0, 1, 2, 3);
            x.terms(0, 1);
            for (int f = 0; f < 4; f++) {
                due("QUEUE " + f, x.packet(f, 1, false), f);
                due("LOST in " + f, x.packet(f, 1, false), 4);
                due("is not REFUSED", x.status(), 0);
            }
            due("LOST ones are acts, too", x.count(9), 8);
        });
        S.test("-1;", () -> {
            RxQueues x = Made.busy();
            RxQueues z = Made.together(1);
            due("1", z.packet(0, 1, false), 0);
            due("1,500", z.packet(0, 1500, true), 0);
            for (int size : new int[] {0, -1, 1501, LEAST, MOST}) {
                refused("packet(0, " + size + ")", x, -1, y -> y.packet(0, size, true));
                refused("packet(4, " + size + "), ahead of -2", x, -1, y -> y.packet(4, size, false));
            }
        });
        S.test("-2;", () -> {
            RxQueues x = Made.busy();
            for (int f : new int[] {-1, 4, 23, 24, LEAST, MOST}) {
                refused("packet(" + f + ", 1)", x, -2, y -> y.packet(f, 1, false));
            }
            refused("without FLOWS", new RxQueues(), -2, y -> y.packet(0, 1, false));
        });
        S.test("-4 (NEXT would be above 1,000,000,000).", () -> {
            RxQueues x = Made.together(2);
            Made.gapUntil(x, 1, LAST_PLACE - 1500);
            due("to 1,000,000,000", x.packet(1, 1500, false), 0);
            due("NEXT", x.of(1, 9), LAST_PLACE);
            refused("one more", x, -4, y -> y.packet(1, 1, false));
            refused("-1 ahead of it", x, -1, y -> y.packet(1, 0, false));
            due("another FLOW", x.packet(0, 1, false), 0);
            Made.packets(x, 0, 14, 1);
            due("the QUEUE is full", x.packet(0, 1, false), 4);
            refused("not LOST, but REFUSED", x, -4, y -> y.packet(1, 1, false));
            RxQueues z = Made.together(1);
            Made.gapUntil(z, 0, LAST_PLACE - 1499);
            refused("to 1,000,000,001", z, -4, y -> y.packet(0, 1500, false));
        });
    }

    private static void burst() {
        S.promise(13);
        S.test("n (1 .. 20) PACKETS, one of each FLOW from a told one on, round, none PRESSED: "
                + "how many were not LOST.", () -> {
            RxQueues x = Made.together(24);
            x.terms(0, 32);
            due("1", x.burst(23, 1, 10), 1);
            due("20 from 23 on", x.burst(23, 20, 10), 20);
            for (int i = 1; i <= 20; i++) {
                due("FLOW of " + i, x.waits(0, i, 0), (22 + i) % 24);
                due("not PRESSED " + i, x.waits(0, i, 3), 0);
                due("LONG of " + i, x.waits(0, i, 2), 10);
            }
            due("11 of 20 are not LOST", x.burst(0, 20, 10), 11);
            due("all are LOST", x.burst(0, 20, 10), 0);
            due("is not REFUSED", x.status(), 0);
            due("CAME", x.count(5), 61);
            RxQueues y = Made.together(1);
            due("20 of one FLOW", y.burst(0, 20, 1500), 16);
            due("its NEXT", y.of(0, 9), 30000);
            RxQueues z = Made.together(3);
            z.burst(2, 7, 1);
            due("FLOW 2 is first and last", z.of(2, 10), 3);
            due("FLOW 0", z.of(0, 10), 2);
            due("FLOW 1", z.of(1, 10), 2);
        });
        S.test("-1;", () -> {
            RxQueues x = Made.busy();
            for (int n : new int[] {0, -1, 21, LEAST, MOST}) {
                refused("burst(0, " + n + ", 1)", x, -1, y -> y.burst(0, n, 1));
                refused("burst(4, " + n + ", 1), ahead of -2", x, -1, y -> y.burst(4, n, 1));
            }
            for (int size : new int[] {0, -1, 1501, LEAST, MOST}) {
                refused("burst(0, 1, " + size + ")", x, -1, y -> y.burst(0, 1, size));
                refused("burst(4, 1, " + size + "), ahead of -2", x, -1, y -> y.burst(4, 1, size));
            }
            x.burst(0, 20, 1500);
            due("the most of both", x.status(), 0);
            x.burst(3, 1, 1);
            due("the least of both", x.status(), 0);
        });
        S.test("-2;", () -> {
            RxQueues x = Made.busy();
            for (int f : new int[] {-1, 4, 23, 24, LEAST, MOST}) {
                refused("burst(" + f + ", 1, 1)", x, -2, y -> y.burst(f, 1, 1));
            }
            refused("without FLOWS", new RxQueues(), -2, y -> y.burst(0, 1, 1));
        });
        S.test("-4 (as packet(), of any).", () -> {
            RxQueues x = Made.together(3);
            Made.gapUntil(x, 1, LAST_PLACE - 10);
            refused("of the told one", x, -4, y -> y.burst(1, 1, 11));
            refused("of the next one", x, -4, y -> y.burst(0, 2, 11));
            refused("of the last one, round", x, -4, y -> y.burst(2, 3, 11));
            refused("of one that comes twice", x, -4, y -> y.burst(1, 4, 6));
            refused("of one that comes seven times", x, -4, y -> y.burst(1, 20, 2));
            refused("-1 ahead of it", x, -1, y -> y.burst(1, 1, 1501));
            due("it does not come so far", x.burst(2, 2, 1500), 2);
            due("once, as the first, to 1,000,000,000", x.burst(1, 3, 10), 3);
            x.undo();
            due("once, as the second", x.burst(0, 4, 10), 4);
            x.undo();
            due("once, as the last", x.burst(2, 3, 10), 3);
            x.undo();
            due("twice, to 1,000,000,000", x.burst(1, 4, 5), 4);
            due("NEXT", x.of(1, 9), LAST_PLACE);
            refused("one more", x, -4, y -> y.burst(1, 1, 1));
            RxQueues z = Made.together(3);
            Made.gapUntil(z, 0, LAST_PLACE - 10);
            refused("of FLOW 0, round", z, -4, y -> y.burst(2, 2, 11));
            due("not of FLOW 0", z.burst(1, 2, 11), 2);
        });
    }

    private static void gap() {
        S.promise(14);
        S.test("A GAP of n (1 .. 9,999): NEXT.", () -> {
            RxQueues x = Made.together(24);
            due("1", x.gap(23, 1), 1);
            due("9,999", x.gap(23, 9999), 10000);
            due("of(23, 9)", x.of(23, 9), 10000);
            x.packet(23, 5, false);
            due("behind a PACKET", x.gap(23, 1), 10006);
        });
        S.test("-1;", () -> {
            RxQueues x = Made.busy();
            for (int n : new int[] {0, -1, 10000, LEAST, MOST}) {
                refused("gap(0, " + n + ")", x, -1, y -> y.gap(0, n));
                refused("gap(4, " + n + "), ahead of -2", x, -1, y -> y.gap(4, n));
            }
        });
        S.test("-2;", () -> {
            RxQueues x = Made.busy();
            for (int f : new int[] {-1, 4, 23, 24, LEAST, MOST}) {
                refused("gap(" + f + ", 1)", x, -2, y -> y.gap(f, 1));
            }
            refused("without FLOWS", new RxQueues(), -2, y -> y.gap(0, 1));
        });
        S.test("-4 (as packet()).", () -> {
            RxQueues x = Made.together(2);
            Made.gapUntil(x, 1, LAST_PLACE - 9999);
            due("to 1,000,000,000", x.gap(1, 9999), LAST_PLACE);
            refused("one more", x, -4, y -> y.gap(1, 1));
            refused("-1 ahead of it", x, -1, y -> y.gap(1, 0));
            x.undo();
            due("1 less", x.gap(1, 9998), LAST_PLACE - 1);
            refused("two more", x, -4, y -> y.gap(1, 2));
            due("one more then", x.gap(1, 1), LAST_PLACE);
            due("another FLOW", x.gap(0, 1), 1);
        });
    }

    private static void tick() {
        S.promise(15);
        S.test("TICKS, n 1 .. 100: how many SEGMENTS were GIVEN.", () -> {
            RxQueues x = Made.onEntries(0, 1);
            due("1, nothing", x.tick(1), 0);
            due("100, nothing", x.tick(100), 0);
            due("TIME", x.count(0), 101);
            x.terms(0, 32);
            x.burst(0, 20, 1);
            x.burst(0, 20, 1);
            due("by each of two QUEUES one", x.tick(1), 2);
            due("the rest", x.tick(100), 2);
            due("TIME again", x.count(0), 202);
            x.terms(3, 1);
            x.burst(0, 20, 1);
            due("20", x.tick(100), 20);
        });
        S.test("-1;", () -> {
            RxQueues x = Made.busy();
            for (int n : new int[] {0, -1, 101, LEAST, MOST}) {
                refused("tick(" + n + ")", x, -1, y -> y.tick(n));
            }
        });
        S.test("-4 (TIME above 99,999).", () -> {
            RxQueues x = Made.together(1);
            Made.tickUntil(x, 99900);
            refused("to 100,000", x, -4, y -> y.tick(100));
            due("to 99,999", x.tick(99), 0);
            due("TIME", x.count(0), 99999);
            refused("one more", x, -4, y -> y.tick(1));
            refused("-1 ahead of it", x, -1, y -> y.tick(101));
            x.packet(0, 1, false);
            refused("while one waits", x, -4, y -> y.tick(4));
            due("poll() may still be", x.poll(0), 1);
        });
    }

    private static void poll() {
        S.promise(16);
        S.test("A QUEUE CALLS now, whatever it has (nothing learnt): how many PACKETS were taken.", () -> {
            for (int n : new int[] {1, 2, 8, 15, 16, 17, 32}) {
                RxQueues x = Made.together(1);
                x.terms(0, 32);
                Made.packets(x, 0, n, 1);
                due("of " + n, x.poll(0), Math.min(n, 16));
                due("DELAY behind " + n, x.queue(0, 1), 4);
                due("left of " + n, x.queue(0, 0), n - Math.min(n, 16));
                due("CALLS of " + n, x.queue(0, 3), 1);
                due("TIME of " + n, x.count(0), 0);
            }
            RxQueues y = Made.onEntries(3);
            y.packet(0, 1, false);
            due("QUEUE 3", y.poll(3), 1);
        });
        S.test("-1;", () -> {
            RxQueues x = Made.busy();
            for (int q : new int[] {-1, 4, LEAST, MOST}) {
                refused("poll(" + q + ")", x, -1, y -> y.poll(q));
            }
        });
        S.test("-4 (it has none).", () -> {
            RxQueues x = Made.together(1);
            refused("none came", x, -4, y -> y.poll(0));
            x.packet(0, 1, false);
            for (int q = 1; q < 4; q++) {
                int other = q;
                refused("QUEUE " + q, x, -4, y -> y.poll(other));
            }
            x.poll(0);
            refused("all were taken", x, -4, y -> y.poll(0));
        });
    }

    private static int act(RxQueues x, int act) {
        switch (act) {
            case 0: return x.key(7, 7, 7);
            case 1: return x.mask(5);
            case 2: return x.flow(9, 9, 9, 9, 1);
            case 3: return x.table(3, 0);
            case 4: return x.balance();
            case 5: return x.steer(2, 1);
            case 6: return x.free(1);
            case 7: return x.terms(0, 2);
            case 8: return x.packet(0, 99, true);
            case 9: return x.burst(1, 9, 9);
            case 10: return x.gap(0, 77);
            case 11: return x.tick(2);
            case 12: return x.poll(0);
            case 13: return x.reads(1, 3);
            default: return x.retire(0);
        }
    }

    private static void undo() {
        S.promise(17);
        S.test("The latest key() (told as 0), mask() (1), flow() (2; one that came), table() (3), balance() (4), "
                + "steer() (5), free() (6), terms() (7), packet() (8), burst() (9), gap() (10), tick() (11), poll() (12), "
                + "reads() (13), retire() (14) that was not REFUSED", () -> {
            for (int act = 0; act < 15; act++) {
                RxQueues x = Made.busy();
                act(x, act);
                due("act " + act + " is not REFUSED", x.status(), 0);
                x.mask(99);
                x.poll(99);
                x.free(99);
                x.back(0);
                x.flow(Made.fromOf(1), 0, 0, 0, 0);
                x.image(1);
                due("undo() of " + act, x.undo(), act);
                due("status() of " + act, x.status(), 0);
            }
        });
        S.test("flow() (2; one that came),", () -> {
            RxQueues x = new RxQueues();
            x.flow(1, 1, 1, 1, 1);
            x.mask(3);
            x.flow(1, 1, 1, 1, 1);
            due("one that there was is no act", x.count(9), 2);
            due("mask()", x.undo(), 1);
            due("flow()", x.undo(), 2);
            due("no more FLOWS", x.count(1), 0);
            due("nothing more", x.undo(), -4);
        });
        S.test("(8 are kept)", () -> {
            for (int n : new int[] {0, 1, 7, 8, 9, 16, 17}) {
                RxQueues x = new RxQueues();
                for (int i = 1; i <= n; i++) {
                    x.mask(i);
                    due("count(9) of " + i, x.count(9), Math.min(8, i));
                }
                for (int i = Math.min(8, n); i > 0; i--) {
                    due("undo() of " + n, x.undo(), 1);
                    due("left of " + n, x.count(9), i - 1);
                    int behind = n - (Math.min(8, n) - i) - 1;
                    due("MASK of " + n, x.count(3), behind == 0 ? 31 : behind);
                }
                due("no more of " + n, x.undo(), -4);
                x.mask(30);
                x.mask(29);
                due("two new ones", x.count(9), 2);
                due("undo() of the new one", x.undo(), 1);
                due("MASK of the new one", x.count(3), 30);
            }
        });
        S.test("is undone (all but what is told of REFUSED calls is as it was): that.", () -> {
            for (int act = 0; act < 15; act++) {
                RxQueues x = Made.busy();
                long before = Look.atAll(x);
                x.mask(-1);
                act(x, act);
                S.due("act " + act + " changes something", Look.atAll(x) != before, true);
                x.free(-1);
                x.undo();
                due("all as it was ahead of " + act, Look.atAll(x), before);
                due("-1 told of " + act, x.count(10), 1);
                due("-2 told of " + act, x.count(11), 1);
            }
            RxQueues y = Made.together(1);
            for (int n = 1; n <= 12; n++) {
                y.packet(0, n, false);
                y.poll(0);
            }
            y.packet(0, 13, false);
            y.poll(0);
            due("the first of 13 SEGMENTS is gone", y.segment(11, 2), 2);
            y.undo();
            for (int ago = 0; ago < 12; ago++) {
                due("the last 12 that were GIVEN, ago " + ago, y.segment(ago, 2), 12 - ago);
            }
        });
        S.test("-4 there is none.", () -> {
            refused("of a new object", new RxQueues(), -4, RxQueues::undo);
            RxQueues x = Made.busy();
            for (int i = 0; i < 8; i++) {
                x.undo();
            }
            refused("behind 8", x, -4, RxQueues::undo);
            x.mask(-1);
            refused("REFUSED calls are none", x, -4, RxQueues::undo);
        });
    }

    private static void images() {
        S.promise(18);
        S.test("IMAGE k (0, 1) is kept, of all but what can be undone and what is told of REFUSED calls: TIME.", () -> {
            RxQueues x = Made.busy();
            long first = Look.atAll(x);
            due("image(0)", x.image(0), 4);
            due("status()", x.status(), 0);
            due("it is no act", x.count(9), 8);
            x.mask(-1);
            x.tick(30);
            x.flow(255, 0, 0, 0, 0);
            long second = Look.atAll(x);
            due("image(1)", x.image(1), 34);
            due("image(1) changes nothing", Look.atAll(x), second);
            x.free(-1);
            x.back(0);
            due("all of IMAGE 0", Look.atAll(x), first);
            due("-1 told", x.count(10), 1);
            due("-2 told", x.count(11), 1);
            x.gap(0, 5);
            x.back(1);
            due("all of IMAGE 1", Look.atAll(x), second);
            x.back(0);
            due("IMAGE 0 once more", Look.atAll(x), first);
            x.tick(1);
            due("in place of IMAGE 1", x.image(1), 5);
            x.back(0);
            due("IMAGE 1 then", x.back(1), 5);
            RxQueues z = Made.together(1);
            Made.comeAndGo(z, 12);
            long third = Look.atAll(z);
            z.image(1);
            z.packet(0, 40, false);
            z.poll(0);
            z.tick(1);
            z.back(1);
            due("all of one with 12 SEGMENTS", Look.atAll(z), third);
            due("at TIME 0", new RxQueues().image(0), 0);
        });
        S.test("-1.", () -> {
            RxQueues x = Made.busy();
            for (int k : new int[] {-1, 2, LEAST, MOST}) {
                refused("image(" + k + ")", x, -1, y -> y.image(k));
            }
            due("none was kept", x.back(0), -4);
            due("none was kept, too", x.back(1), -4);
        });
        S.promise(19);
        S.test("Back to IMAGE k: TIME; nothing can be undone then.", () -> {
            RxQueues x = Made.busy();
            x.image(1);
            due("at once", x.back(1), 4);
            due("status()", x.status(), 0);
            due("count(9)", x.count(9), 0);
            refused("undo()", x, -4, RxQueues::undo);
            x.tick(1);
            due("a new act can be", x.undo(), 11);
            due("to what stood behind back()", x.count(0), 4);
            refused("and no more", x, -4, RxQueues::undo);
        });
        S.test("-1;", () -> {
            RxQueues x = Made.busy();
            x.image(0);
            x.image(1);
            x.tick(1);
            for (int k : new int[] {-1, 2, LEAST, MOST}) {
                refused("back(" + k + ")", x, -1, y -> y.back(k));
            }
            due("acts can still be undone", x.undo(), 11);
        });
        S.test("-4 (it was not kept).", () -> {
            RxQueues x = Made.busy();
            refused("back(0)", x, -4, y -> y.back(0));
            x.image(0);
            refused("back(1)", x, -4, y -> y.back(1));
            due("acts can still be undone", x.undo(), 8);
            RxQueues z = Made.busy();
            z.image(1);
            refused("back(0), with IMAGE 1", z, -4, y -> y.back(0));
        });
    }
}
