/** Every sentence of Terms II by its bounds: packets that come, rules, ticks, calls, batches, retiring, balancing. */
public final class TermsTwoTest {
    private static final Sentences S = new Sentences();

    public static void main(String[] args) {
        S.secondTerms();
        coming();
        gapsAndRules();
        ticks();
        whetherItCalls();
        calls();
        batches();
        given();
        following();
        retiring();
        balancing();
        S.finish();
    }

    private static void due(String call, long got, long want) {
        S.due(call, got, want);
    }

    private static void coming() {
        S.test("A PACKET that comes: its PLACE is the FLOW's NEXT one (0 at first), which is LONG more then.", () -> {
            RxQueues x = Made.together(2);
            due("NEXT at first", x.of(0, 9), 0);
            x.packet(0, 1500, false);
            due("PLACE 0", x.waits(0, 0, 1), 0);
            due("NEXT", x.of(0, 9), 1500);
            x.packet(0, 1, false);
            due("PLACE 1500", x.waits(0, 1, 1), 1500);
            due("NEXT again", x.of(0, 9), 1501);
            due("of another FLOW", x.of(1, 9), 0);
        });
        S.test("Are there PACKETS of the FLOW in a QUEUE, it goes to that (it STICKS, if that is not its WISH, "
                + "LOST or not); or else to its WISH.", () -> {
            RxQueues x = Made.onEntries(1);
            x.terms(0, 32);
            x.burst(0, 17, 1);
            x.steer(0, 2);
            x.poll(1);
            due("one is left", x.packet(0, 1, false), 1);
            due("it STUCK", x.of(0, 12), 1);
            x.poll(1);
            due("none is left", x.packet(0, 1, false), 2);
            due("that is its WISH", x.of(0, 12), 1);
            due("its WISH, where they are", x.packet(0, 1, false), 2);
            due("it did not STICK", x.of(0, 12), 1);
            x.terms(0, 1);
            due("LOST in its WISH", x.packet(0, 1, false), 4);
            due("it did not STICK, LOST", x.of(0, 12), 1);
            x.table(1, 3);
            x.free(0);
            due("LOST where they are", x.packet(0, 1, false), 4);
            due("it STUCK, LOST", x.of(0, 12), 2);
            due("LOST of that QUEUE", x.queue(2, 5), 2);
            due("its WISH is empty", x.queue(3, 0), 0);
            RxQueues y = Made.onEntries(1, 1);
            y.packet(0, 1, false);
            y.table(1, 2);
            due("PACKETS of another FLOW hold nothing", y.packet(1, 1, false), 2);
        });
        S.test("Has that QUEUE ROOM PACKETS or more, it is LOST (NEXT is more all the same).", () -> {
            RxQueues x = Made.together(2);
            x.terms(0, 2);
            due("none", x.packet(0, 10, false), 0);
            due("ROOM less 1", x.packet(1, 10, false), 0);
            due("ROOM", x.packet(0, 10, false), 4);
            due("NEXT", x.of(0, 9), 20);
            x.terms(0, 1);
            due("ROOM and 1", x.packet(0, 10, false), 4);
            due("NEXT again", x.of(0, 9), 30);
            x.terms(0, 3);
            due("below ROOM again", x.packet(0, 10, false), 0);
            due("PLACE behind the LOST ones", x.waits(0, 2, 1), 30);
        });
        S.test("USED of its RULE is TIME.", () -> {
            RxQueues x = Made.together(1);
            x.terms(0, 1);
            x.steer(0, 0);
            x.tick(2);
            x.packet(0, 1, false);
            due("USED", x.of(0, 14), 2);
            x.tick(1);
            due("LOST", x.packet(0, 1, false), 4);
            due("USED by a LOST one", x.of(0, 14), 3);
            x.free(0);
            x.packet(0, 1, false);
            due("without a RULE", x.of(0, 14), -1);
        });
        S.test("Has its QUEUE FULL PACKETS or more with it, it is MARKED (LOST ones not).", () -> {
            RxQueues x = Made.together(3);
            x.terms(8, 3);
            x.terms(0, 4);
            x.packet(0, 1, false);
            x.packet(1, 1, false);
            due("FULL less 1", x.count(24), 0);
            x.packet(2, 1, false);
            due("FULL", x.of(2, 18), 1);
            x.packet(1, 1, false);
            due("FULL and 1", x.of(1, 18), 1);
            due("LOST", x.packet(0, 1, false), 4);
            due("LOST ones not", x.of(0, 18), 0);
            x.poll(0);
            x.packet(0, 1, false);
            due("below FULL again", x.count(24), 2);
            RxQueues y = Made.together(1);
            y.terms(0, 2);
            y.terms(8, 3);
            y.burst(0, 3, 1);
            due("FULL above ROOM", y.count(24), 0);
        });
        S.test("Of the FLOW: CAME (LOST ones, too), LOST; of its ENTRY: HITS (likewise).", () -> {
            RxQueues x = Made.onEntries(15, 0);
            x.terms(0, 1);
            Made.packets(x, 0, 3, 1);
            due("CAME", x.of(0, 10), 3);
            due("LOST", x.of(0, 11), 2);
            due("HITS", x.entry(15, 1), 3);
            x.mask(0);
            x.packet(0, 1, false);
            due("HITS of the ENTRY that it has by then", x.entry(0, 1), 1);
            due("HITS of the other one stay", x.entry(15, 1), 3);
            due("another FLOW", x.of(1, 10), 0);
        });
    }

    private static void gapsAndRules() {
        S.test("A GAP: NEXT of a FLOW is more, nothing comes.", () -> {
            RxQueues x = Made.together(2);
            x.steer(0, 0);
            x.tick(1);
            x.gap(0, 9999);
            due("NEXT", x.of(0, 9), 9999);
            due("of another FLOW", x.of(1, 9), 0);
            due("CAME", x.of(0, 10), 0);
            due("HITS", x.entry(0, 1), 0);
            due("PACKETS", x.count(4), 0);
            due("FRESH", x.queue(0, 8), 0);
            due("USED", x.of(0, 14), 0);
        });
        S.test("A RULE for a FLOW (in place of one it has: USED is TIME):", () -> {
            RxQueues x = Made.together(7);
            for (int f = 0; f < 6; f++) {
                x.steer(f, 1);
            }
            x.tick(5);
            due("none goes for it, with 6", x.steer(0, 1), -1);
            due("USED, of the same QUEUE", x.of(0, 14), 5);
            due("another QUEUE", x.steer(5, 3), -1);
            due("its QUEUE", x.of(5, 13), 3);
            due("USED", x.of(5, 14), 5);
            due("6", x.count(2), 6);
            due("USED of the others", x.of(4, 14), 0);
        });
        S.test("are there 6 and none of the FLOW, the one of least USED goes ahead, "
                + "of like ones that of the least FLOW.", () -> {
            RxQueues x = Made.together(9);
            for (int f = 5; f > 0; f--) {
                x.steer(f, 1);
            }
            due("there are 5", x.steer(0, 1), -1);
            x.tick(1);
            x.packet(0, 1, false);
            x.packet(1, 1, false);
            due("0 and 1 were used, 2 is the least of like ones", x.steer(8, 1), 2);
            due("its RULE", x.of(2, 13), -1);
            due("its USED", x.of(2, 14), -1);
            due("3", x.steer(7, 1), 3);
            due("4", x.steer(6, 1), 4);
            due("5, the last of TIME 0", x.steer(2, 1), 5);
            due("all of TIME 1, the least FLOW", x.steer(5, 1), 0);
            x.tick(1);
            x.steer(1, 2);
            due("1 is of TIME 2 then", x.steer(0, 1), 2);
            due("6", x.count(2), 6);
        });
    }

    private static void ticks() {
        S.test("A TICK: TIME is 1 more; RULES whose USED and OLD are below TIME go;", () -> {
            RxQueues x = Made.together(3);
            x.terms(2, 5);
            x.steer(0, 1);
            x.steer(1, 2);
            x.tick(1);
            due("TIME", x.count(0), 1);
            x.packet(1, 1, false);
            x.tick(4);
            due("USED and OLD are TIME", x.of(0, 13), 1);
            x.tick(1);
            due("below TIME", x.of(0, 13), -1);
            due("the other one is TIME", x.of(1, 13), 2);
            x.tick(1);
            due("the other one goes", x.of(1, 13), -1);
            x.steer(2, 1);
            x.tick(3);
            x.terms(2, 1);
            due("by a TICK alone", x.count(2), 1);
            x.tick(1);
            due("OLD is less", x.count(2), 0);
        });
        S.test("RULES whose USED and OLD are below TIME go; then QUEUE by QUEUE", () -> {
            // DELAY 4: the call is at TIME 4, where the rule of TIME 0 with OLD 3 goes ahead of it
            RxQueues x = Made.together(1);
            x.terms(6, 1);
            x.terms(2, 3);
            x.reads(0, 1);
            x.packet(0, 1, false);
            x.steer(0, 1);
            x.tick(4);
            due("it has no RULE to that by then", x.count(23), 1);
            due("USED of the new one", x.of(0, 14), 4);
            // OLD 4: the rule is still there at TIME 4
            RxQueues y = Made.together(1);
            y.terms(6, 1);
            y.terms(2, 4);
            y.reads(0, 1);
            y.packet(0, 1, false);
            y.steer(0, 1);
            y.tick(4);
            due("it has its RULE", y.count(23), 0);
            due("USED of that", y.of(0, 14), 0);
            RxQueues z = Made.onEntries(3, 2, 1, 0);
            z.burst(0, 4, 1);
            z.tick(4);
            for (int ago = 0; ago < 4; ago++) {
                due("the QUEUES in their order, ago " + ago, z.segment(ago, 0), ago);
            }
        });
        S.test("PACE is PACE and (16 times FRESH less PACE) by 8, cut towards 0, FRESH is 0;", () -> {
            RxQueues x = Made.together(1);
            int[][] steps = {{1, 2}, {1, 3}, {0, 3}, {2, 6}, {1, 7}, {0, 7}, {1, 8}, {0, 7}, {1, 8}, {1, 9}, {1, 9}, {0, 8},
                {10, 27}, {0, 24}, {0, 21}, {1, 21}, {32, 82}};
            for (int i = 0; i < steps.length; i++) {
                Made.comeAndGo(x, steps[i][0]);
                due("FRESH of step " + i, x.queue(0, 8), steps[i][0]);
                x.tick(1);
                due("PACE of step " + i, x.queue(0, 7), steps[i][1]);
                due("FRESH behind step " + i, x.queue(0, 8), 0);
            }
            due("of another QUEUE", x.queue(3, 7), 0);
        });
    }

    private static void whetherItCalls() {
        S.test("and it is looked whether it CALLS: it has PACKETS,", () -> {
            RxQueues x = Made.together(1);
            x.terms(7, 256);
            x.terms(1, 1);
            x.tick(100);
            due("it has none", x.count(8), 0);
            due("DELAY is as it was", x.queue(0, 1), 4);
            x.packet(0, 1, false);
            x.tick(100);
            due("it has one, once", x.count(8), 1);
        });
        S.test("and has MANY or more,", () -> {
            int[] waiting = {7, 8, 9};
            for (int n : waiting) {
                RxQueues x = Made.together(1);
                x.burst(0, n, 1);
                due(n + " wait", x.tick(1), n < 8 ? 0 : 1);
                due(n + " taken", x.queue(0, 4), n < 8 ? 0 : n);
            }
        });
        S.test("or PACE is below SLOW,", () -> {
            // 3 packets: PACE 6
            for (int slow : new int[] {0, 5, 6, 7, 8}) {
                RxQueues x = Made.together(1);
                x.terms(7, slow);
                x.burst(0, 3, 1);
                due("PACE 6, SLOW " + slow, x.tick(1), slow > 6 ? 1 : 0);
            }
        });
        S.test("or TIME less SINCE is DELAY or more.", () -> {
            RxQueues x = Made.together(1);
            x.tick(7);
            x.burst(0, 3, 1);
            due("3 is below 4", x.tick(3), 0);
            due("4", x.tick(1), 1);
            x.burst(0, 8, 1);
            x.tick(1);
            due("DELAY", x.queue(0, 1), 8);
            x.terms(0, 32);
            x.terms(1, 32);
            x.burst(0, 19, 1);
            x.tick(2);
            x.poll(0);
            due("7 is below 8, since a CALL", x.tick(7), 0);
            due("8", x.tick(1), 1);
        });
    }

    private static void calls() {
        S.test("By a CALL the QUEUE's PACKETS, 16 at most, the first ones, are a BATCH: they are taken away;", () -> {
            for (int n : new int[] {1, 15, 16, 17, 32}) {
                RxQueues x = Made.together(1);
                x.terms(0, 32);
                x.terms(1, 1);
                for (int i = 0; i < n; i++) {
                    x.packet(0, i + 1, false);
                }
                x.tick(1);
                int taken = Math.min(16, n);
                due("taken of " + n, x.queue(0, 4), taken);
                due("left of " + n, x.queue(0, 0), n - taken);
                due("the first one left of " + n, x.waits(0, 0, 2), n > 16 ? 17 : -1);
                due("of(0, 7) of " + n, x.of(0, 7), n > 16 ? 0 : -1);
                due("of(0, 8) of " + n, x.of(0, 8), n - taken);
                due("one CALL of " + n, x.queue(0, 3), 1);
            }
        });
        S.test("DELAY learns: is the BATCH MANY or more, it is twice it (16 at most),", () -> {
            due("MANY less 1", delayBy(7, 8), 4);
            due("MANY", delayBy(8, 8), 8);
            due("MANY and 1", delayBy(9, 8), 8);
            due("MANY 16, 16 wait", delayBy(16, 16), 8);
            due("MANY 17, 17 wait, but 16 are a BATCH", delayBy(17, 17), 4);
            due("MANY 32, 32 wait", delayBy(32, 32), 4);
            due("MANY 3", delayBy(3, 3), 8);
            RxQueues x = Made.together(1);
            for (int want : new int[] {8, 16, 16}) {
                x.burst(0, 8, 1);
                x.tick(1);
                due("16 at most", x.queue(0, 1), want);
            }
        });
        S.test("is it 2 at most, half of it (downwards, 1 at least).", () -> {
            due("1", delayBy(1, 8), 2);
            due("2", delayBy(2, 8), 2);
            due("3", delayBy(3, 8), 4);
            due("MANY 3", delayBy(2, 3), 2);
            RxQueues x = Made.together(1);
            for (int want : new int[] {2, 1, 1}) {
                x.packet(0, 1, false);
                x.tick(4);
                due("1 at least", x.queue(0, 1), want);
            }
        });
        S.test("If PACKETS are left, SINCE is TIME.", () -> {
            RxQueues x = Made.together(1);
            x.terms(0, 32);
            x.tick(2);
            x.burst(0, 16, 1);
            x.tick(1);
            due("none are left", x.queue(0, 2), -1);
            x.burst(0, 17, 1);
            due("they came", x.queue(0, 2), 3);
            x.tick(1);
            due("one is left", x.queue(0, 2), 4);
        });
    }

    /** DELAY, 4 at first, behind the first call of a queue with n packets. */
    private static int delayBy(int n, int many) {
        RxQueues x = Made.together(1);
        x.terms(0, 32);
        x.terms(1, many);
        Made.packets(x, 0, n, 1);
        x.tick(x.nextCall(0));
        return x.queue(0, 1);
    }

    private static void batches() {
        S.test("A BATCH, one PACKET behind the other: it JOINS the SEGMENT of its FLOW that is open, "
                + "if the end of that is its PLACE, and both are LONGEST at most together;", () -> {
            RxQueues x = Made.together(2);
            x.terms(3, 100);
            x.packet(0, 60, false);
            x.packet(1, 60, false);
            x.packet(0, 40, false);
            x.packet(1, 41, false);
            x.poll(0);
            due("100 together", x.of(0, 16), 1);
            due("101 not", x.of(1, 16), 2);
            x.packet(0, 1, false);
            x.gap(0, 1);
            x.packet(0, 1, false);
            x.poll(0);
            due("the end is 1 less than its PLACE", x.of(0, 16), 3);
            x.terms(0, 1);
            x.packet(0, 1, false);
            x.packet(0, 1, false);
            x.terms(0, 2);
            x.packet(0, 1, false);
            x.poll(0);
            due("one was LOST between", x.of(0, 16), 5);
        });
        S.test("or else that one (if there is one) is CLOSED, and it opens a new one (also longer than LONGEST).", () -> {
            RxQueues x = Made.together(1);
            x.terms(3, 1);
            x.packet(0, 1500, false);
            x.packet(0, 1, false);
            x.packet(0, 1, false);
            x.poll(0);
            due("three", x.given(0), 3);
            due("longer than LONGEST", x.segment(2, 2), 1500);
            due("the next one", x.segment(1, 1), 1500);
            due("the last one", x.segment(0, 1), 1501);
        });
        S.test("Is it PRESSED, the SEGMENT is CLOSED then.", () -> {
            RxQueues x = Made.together(2);
            x.packet(1, 9, false);
            x.packet(0, 10, false);
            x.packet(0, 10, true);
            x.packet(0, 10, true);
            x.packet(0, 10, false);
            x.poll(0);
            int[][] want = {{1, 0, 1}, {0, 30, 1}, {0, 20, 1}, {0, 0, 2}};
            for (int ago = 0; ago < 4; ago++) {
                due("FLOW of " + ago, x.segment(ago, 0), want[ago][0]);
                due("PLACE of " + ago, x.segment(ago, 1), want[ago][1]);
                due("PACKETS of " + ago, x.segment(ago, 3), want[ago][2]);
            }
            due("four", x.given(0), 4);
        });
        S.test("Behind the BATCH all that are open are CLOSED, by FLOWS' numbers.", () -> {
            RxQueues x = Made.together(24);
            x.terms(0, 32);
            for (int f = 23; f >= 8; f--) {
                x.packet(f, 1, false);
            }
            x.packet(8, 1, false);
            due("16 were taken", x.poll(0), 16);
            due("16 were given", x.given(0), 16);
            for (int ago = 0; ago < 12; ago++) {
                due("FLOW of " + ago, x.segment(ago, 0), 23 - ago);
            }
            x.poll(0);
            due("the 17th joins none of them", x.given(0), 17);
            due("its PACKETS", x.segment(0, 3), 1);
        });
    }

    private static void given() {
        S.test("A CLOSED SEGMENT is GIVEN: FLOW, PLACE, LONG, how many PACKETS;", () -> {
            RxQueues x = Made.together(2);
            x.gap(1, 7);
            x.packet(1, 10, false);
            x.packet(1, 20, false);
            due("not yet", x.segment(0, 0), -1);
            x.poll(0);
            int[] want = {1, 7, 30, 2};
            for (int w = 0; w < 4; w++) {
                due("segment(0, " + w + ")", x.segment(0, w), want[w]);
            }
        });
        S.test("HEAD once of it (of LONG, if that is less) lies apart,", () -> {
            RxQueues x = Made.together(1);
            for (int n : new int[] {1, 39, 40, 41}) {
                x.packet(0, n, false);
                x.poll(0);
                due("apart of " + n, x.segment(0, 5), Math.min(n, 40));
            }
            Made.packets(x, 0, 3, 100);
            x.poll(0);
            due("once of three PACKETS", x.segment(0, 5), 40);
        });
        S.test("what is more fills PAGES of PAGE, the last one as far as need be.", () -> {
            RxQueues x = Made.together(1);
            x.terms(5, 64);
            int[][] want = {{39, 0}, {40, 0}, {41, 1}, {103, 1}, {104, 1}, {105, 2}, {168, 2}, {169, 3}};
            for (int[] w : want) {
                x.packet(0, w[0], false);
                x.poll(0);
                due("PAGES of " + w[0], x.segment(0, 4), w[1]);
            }
        });
        S.test("(HEADS: how many were more than 0; BYTES on PAGES, PAGES, in all.)", () -> {
            RxQueues x = Made.together(1);
            x.terms(4, 0);
            Made.comeAndGo(x, 1);
            due("HEADS with HEAD 0", x.given(3), 0);
            x.terms(4, 1);
            Made.comeAndGo(x, 1);
            due("HEADS with HEAD 1", x.given(3), 1);
            due("BYTES on PAGES", x.given(5), 1);
            due("PAGES", x.given(6), 1);
            x.packet(0, 1026, false);
            x.poll(0);
            due("HEADS again", x.given(3), 2);
            due("BYTES on PAGES again", x.given(5), 1026);
            due("PAGES again", x.given(6), 3);
        });
        S.test("The last 12 that were GIVEN are kept.", () -> {
            RxQueues x = Made.together(1);
            for (int n = 1; n <= 25; n++) {
                x.packet(0, n, false);
                x.poll(0);
                due("the latest of " + n, x.segment(0, 2), n);
                due("the 12th of " + n, x.segment(11, 2), n >= 12 ? n - 11 : -1);
                due("the 13th of " + n, x.segment(12, 2), -1);
                due("the first of " + n, x.segment(n - 1, 2), n <= 12 ? 1 : -1);
            }
        });
    }

    private static void following() {
        S.test("By one that is GIVEN out of a QUEUE that is not that of its FLOW's READER (if it has one), "
                + "with FOLLOWS 1, and if the FLOW has no RULE to that, a RULE comes to the READER's QUEUE "
                + "(as told above; it FOLLOWED).", () -> {
            due("it FOLLOWED", followed(1, 3, -1), 1);
            due("READER's QUEUE 0", followedToZero(), 1);
            due("out of its READER's QUEUE", followed(1, 0, -1), 0);
            due("no READER", followed(1, -1, -1), 0);
            due("FOLLOWS 0", followed(0, 3, -1), 0);
            due("it has a RULE to that", followed(1, 3, 3), 0);
            due("it has a RULE to another", followed(1, 3, 2), 1);
            due("it has a RULE to where it is", followed(1, 3, 0), 1);
        });
        S.test("a RULE comes to the READER's QUEUE (as told above;", () -> {
            RxQueues x = Made.together(8);
            x.terms(6, 1);
            for (int f = 0; f < 6; f++) {
                x.steer(f, 0);
            }
            x.tick(2);
            x.reads(7, 2);
            x.packet(7, 10, true);
            x.packet(7, 10, false);
            x.poll(0);
            due("the least one went ahead", x.of(0, 13), -1);
            due("only one went", x.of(1, 13), 0);
            due("6", x.count(2), 6);
            due("the RULE", x.of(7, 13), 2);
            due("USED", x.of(7, 14), 2);
            due("by the first SEGMENT alone", x.count(23), 1);
            x.reads(7, 3);
            x.packet(7, 10, false);
            x.tick(1);
            x.poll(2);
            due("in place of its own", x.of(7, 13), 3);
            due("USED again", x.of(7, 14), 3);
            due("none went for it", x.count(2), 6);
        });
    }

    /** How often one FOLLOWED by a packet given out of queue 0, the rule made behind its coming. */
    private static int followed(int follows, int reader, int rule) {
        RxQueues x = Made.together(1);
        x.terms(6, follows);
        x.reads(0, reader);
        x.packet(0, 10, false);
        if (rule != -1) {
            x.steer(0, rule);
        }
        x.poll(0);
        due("its RULE then", x.of(0, 13), x.count(23) == 1 ? reader : rule);
        return x.count(23);
    }

    private static int followedToZero() {
        RxQueues x = Made.onEntries(3);
        x.terms(6, 1);
        x.reads(0, 0);
        x.packet(0, 10, false);
        x.poll(3);
        due("its RULE to 0", x.of(0, 13), 0);
        return x.count(23);
    }

    private static void entriesAre(RxQueues x, int... queues) {
        for (int e = 0; e < 16; e++) {
            due("entry(" + e + ", 0)", x.entry(e, 0), queues[e]);
        }
    }

    private static void retiring() {
        S.test("RETIRED: a QUEUE gets no more by TABLE, RULES: RULES to it go;", () -> {
            RxQueues x = Made.onEntries(0, 1, 2, 3);
            x.steer(0, 3);
            x.steer(1, 0);
            x.steer(2, 3);
            x.retire(3);
            due("of(0, 13)", x.of(0, 13), -1);
            due("of(0, 14)", x.of(0, 14), -1);
            due("of(1, 13)", x.of(1, 13), 0);
            due("of(2, 13)", x.of(2, 13), -1);
            due("FLOWS whose WISH it is", x.queue(3, 6), 0);
            due("ENTRIES of it", x.queue(3, 9), 0);
            RxQueues y = Made.together(1);
            y.steer(0, 0);
            y.retire(0);
            due("a RULE to QUEUE 0", y.count(2), 0);
        });
        S.test("its ENTRIES by falling HITS, of like ones by rising numbers, each get the other QUEUE that has "
                + "least HITS of its ENTRIES by then, the least of like ones.", () -> {
            RxQueues x = new RxQueues();
            x.retire(0);
            entriesAre(x, 1, 1, 2, 3, 1, 1, 2, 3, 1, 1, 2, 3, 1, 1, 2, 3);
            // queue 3 has entries 3 (1), 7 (4), 11 (4); queues 0, 1, 2 have 2, 1, 1 by entries 0, 1, 2
            RxQueues y = Made.withHits(2, 1, 1, 1, 0, 0, 0, 4, 0, 0, 0, 4);
            due("it had", y.retire(3), 4);
            // 7 to 1 (2, 5, 1), 11 to 2 (2, 5, 5), 3 to 0 (3, 5, 5), 15 to 0
            entriesAre(y, 0, 1, 2, 0, 0, 1, 2, 1, 0, 1, 2, 2, 0, 1, 2, 0);
            // queue 0 has entries 0 (1) and 4 (2); by falling HITS 4 is ahead of 0
            RxQueues z = Made.withHits(1, 1, 1, 1, 2);
            z.retire(0);
            // 4 to 1 (3, 1, 1), 0 to 2 (3, 2, 1), 8 to 3, 12 to 3
            entriesAre(z, 2, 1, 2, 3, 1, 1, 2, 3, 3, 1, 2, 3, 3, 1, 2, 3);
        });
        S.test("PACKETS in it stay.", () -> {
            RxQueues x = Made.together(1);
            x.burst(0, 3, 1);
            x.retire(0);
            due("they are there", x.queue(0, 0), 3);
            due("SINCE", x.queue(0, 2), 0);
            due("its WISH", x.of(0, 6), 1);
            due("one more STICKS", x.packet(0, 1, false), 0);
            due("it STUCK", x.of(0, 12), 1);
            x.tick(4);
            due("they are taken", x.queue(0, 4), 4);
            due("the next one goes to its WISH", x.packet(0, 1, false), 1);
        });
    }

    private static void balancing() {
        S.test("BALANCED: ENTRIES by falling HITS, of like ones by rising numbers, each gets the QUEUE that has least "
                + "by then (HITS of those it got so far together), the least of like ones;", () -> {
            RxQueues x = new RxQueues();
            x.balance();
            entriesAre(x, 0, 0, 0, 0, 0, 0, 0, 0, 0, 0, 0, 0, 0, 0, 0, 0);
            RxQueues y = Made.withHits(1, 1, 1, 1);
            y.balance();
            // all four have 1 then, and the rest goes to the least number
            entriesAre(y, 0, 1, 2, 3, 0, 0, 0, 0, 0, 0, 0, 0, 0, 0, 0, 0);
            RxQueues z = Made.withHits(1, 5, 2, 3, 3, 1);
            z.balance();
            // 1 to 0 (5), 3 to 1 (3), 4 to 2 (3), 2 to 3 (2), 0 to 3 (3), 5 to 1 (4), the rest to 2
            entriesAre(z, 3, 0, 3, 1, 2, 1, 2, 2, 2, 2, 2, 2, 2, 2, 2, 2);
            // HITS are 0 by then: the next one goes by those that come behind it
            Made.packets(z, 1, 1, 1);
            due("the QUEUE that has most", z.load(0), 1);
            z.balance();
            entriesAre(z, 1, 0, 1, 1, 1, 1, 1, 1, 1, 1, 1, 1, 1, 1, 1, 1);
        });
        S.test("HITS are 0 then.", () -> {
            RxQueues x = Made.withHits(1, 5, 2, 3, 3, 1);
            due("HITS ahead of it", x.entry(1, 1), 5);
            x.balance();
            for (int e = 0; e < 16; e++) {
                due("entry(" + e + ", 1)", x.entry(e, 1), 0);
            }
            due("CAME stays", x.of(1, 10), 5);
        });
    }
}
