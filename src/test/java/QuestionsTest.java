import java.util.Random;
import java.util.Set;
import java.util.TreeSet;

/** Every sentence of promises 20 to 43 by its bounds: the least and the most asked for, others, empty and full. */
public final class QuestionsTest {
    private static final Sentences S = new Sentences();
    private static final int LEAST = Integer.MIN_VALUE;
    private static final int MOST = Integer.MAX_VALUE;

    public static void main(String[] args) {
        hashes();
        ofAFlow();
        ofAFlowGiven();
        finding();
        missing();
        entries();
        queues();
        queuesInAll();
        waiting();
        segments();
        given();
        windowsAndWays();
        reachAndAim();
        spread();
        ratio();
        alike();
        load();
        would();
        drain();
        nextCall();
        joined();
        counts();
        status();
        S.finishPromises(20, 43);
    }

    private static void due(String call, long got, long want) {
        S.due(call, got, want);
    }

    private static void hashes() {
        S.promise(20);
        S.test("HASH of FIELDS (any int).", () -> {
            RxQueues x = new RxQueues();
            due("of a new object", x.hash(255, 255, 255, 255, 1), 0);
            x.key(-1, -1, 255);
            due("-1 is one, too", x.hash(128, 0, 0, 0, 0), -1);
            due("two of them", x.hash(0, 0, 0, 3, 0), 0);
            x.key(1, 0, 0);
            due("the least int", x.hash(0, 0, 0, 1, 0), LEAST);
            x.key(MOST, 0, 0);
            due("the most int", x.hash(128, 0, 0, 0, 0), MOST);
        });
        S.test("0 for others.", () -> {
            RxQueues x = new RxQueues();
            x.key(-1, -1, 255);
            int[] bad = {-1, 256, LEAST, MOST};
            for (int b : bad) {
                due("FROM " + b, x.hash(b, 1, 0, 0, 0) | x.hash(b, 1, 1, 0, 0), 0);
                due("TO " + b, x.hash(1, b, 0, 0, 0) | x.hash(1, b, 1, 0, 0), 0);
                due("PORT " + b, x.hash(1, 0, b, 0, 0) | x.hash(1, 1, b, 0, 0), 0);
                due("OTHER " + b, x.hash(1, 0, 0, b, 0) | x.hash(1, 1, 0, b, 0), 0);
            }
            for (int b : new int[] {-1, 2, LEAST, MOST}) {
                due("SORT " + b, x.hash(1, 0, 0, 0, b) | x.hash(1, 1, 0, 0, b), 0);
            }
            due("255 and 1 are none of them", x.hash(255, 255, 255, 255, 1), -1);
            due("they are not REFUSED", x.count(10) - x.status(), 0);
        });
        S.promise(21);
        S.test("HASH of a FLOW (any int).", () -> {
            RxQueues x = Made.together(23);
            x.flow(0, 0, 0, 1, 0);
            x.key(1, 0, 0);
            due("the first", x.hashOf(0), 0);
            due("the second", x.hashOf(1), 128);
            due("the last", x.hashOf(23), LEAST);
            x.key(-1, -1, 255);
            due("-1", x.hashOf(23), -1);
        });
        S.test("0 for others.", () -> {
            RxQueues x = Made.together(2);
            x.key(-1, -1, 255);
            due("there is a HASH", x.hashOf(1), -1);
            for (int f : new int[] {-1, 2, 23, 24, LEAST, MOST}) {
                due("hashOf(" + f + ")", x.hashOf(f), 0);
            }
            due("without FLOWS", new RxQueues().hashOf(0), 0);
            due("they are not REFUSED", x.count(11) - x.status(), 0);
        });
    }

    private static void ofAFlow() {
        S.promise(22);
        S.test("Of a FLOW: FIELD (what 0 .. 4),", () -> {
            RxQueues x = Made.together(23);
            x.flow(255, 254, 253, 252, 1);
            int[] want = {255, 254, 253, 252, 1};
            for (int w = 0; w < 5; w++) {
                due("of(23, " + w + ")", x.of(23, w), want[w]);
                due("of(0, " + w + ")", x.of(0, w), 0);
            }
        });
        S.test("ENTRY (5),", () -> {
            RxQueues x = Made.onEntries(0, 15);
            due("0", x.of(0, 5), 0);
            due("15", x.of(1, 5), 15);
        });
        S.test("WISH (6),", () -> {
            RxQueues x = Made.onEntries(0, 15);
            due("0", x.of(0, 6), 0);
            due("3", x.of(1, 6), 3);
        });
        S.test("the QUEUE in which PACKETS of it are (7; NONE),", () -> {
            RxQueues x = Made.onEntries(0, 15);
            due("none came", x.of(0, 7), -1);
            x.burst(0, 2, 1);
            due("0", x.of(0, 7), 0);
            due("3", x.of(1, 7), 3);
            x.steer(0, 1);
            due("still 0", x.of(0, 7), 0);
            x.poll(0);
            due("none are left", x.of(0, 7), -1);
        });
        S.test("how many (8),", () -> {
            RxQueues x = Made.together(2);
            x.terms(0, 32);
            due("none", x.of(0, 8), 0);
            x.packet(1, 1, false);
            Made.packets(x, 0, 32, 1);
            due("31, the last one was LOST", x.of(0, 8), 31);
            due("of the other one", x.of(1, 8), 1);
            x.poll(0);
            due("15 were taken", x.of(0, 8), 16);
            due("of the other one none", x.of(1, 8), 0);
        });
        S.test("NEXT (9),", () -> {
            RxQueues x = Made.together(1);
            due("at first", x.of(0, 9), 0);
            x.terms(0, 1);
            x.burst(0, 2, 1500);
            due("LOST ones, too", x.of(0, 9), 3000);
            x.gap(0, 1);
            due("a GAP", x.of(0, 9), 3001);
        });
        S.test("CAME (10), LOST (11),", () -> {
            RxQueues x = Made.together(1);
            due("CAME at first", x.of(0, 10), 0);
            due("LOST at first", x.of(0, 11), 0);
            x.burst(0, 17, 1);
            due("CAME", x.of(0, 10), 17);
            due("LOST", x.of(0, 11), 1);
        });
        S.test("how often it STUCK (12),", () -> {
            RxQueues x = Made.together(1);
            x.packet(0, 1, false);
            due("not", x.of(0, 12), 0);
            x.table(0, 3);
            x.packet(0, 1, false);
            due("once", x.of(0, 12), 1);
        });
        S.test("QUEUE of its RULE (13; NONE), USED (14; NONE),", () -> {
            RxQueues x = Made.together(24);
            due("no RULE", x.of(23, 13), -1);
            due("no USED", x.of(23, 14), -1);
            x.steer(23, 0);
            due("RULE to 0", x.of(23, 13), 0);
            due("USED 0", x.of(23, 14), 0);
            x.tick(1);
            x.steer(23, 3);
            due("RULE to 3", x.of(23, 13), 3);
            due("USED 1", x.of(23, 14), 1);
            x.free(23);
            due("no RULE again", x.of(23, 13), -1);
            due("no USED again", x.of(23, 14), -1);
        });
    }

    private static void ofAFlowGiven() {
        S.test("PLACE behind the last byte GIVEN of it (15; 0 without),", () -> {
            RxQueues x = Made.together(2);
            x.gap(0, 5);
            x.packet(0, 7, false);
            due("without", x.of(0, 15), 0);
            x.poll(0);
            due("behind it", x.of(0, 15), 12);
            x.gap(0, 5);
            due("a GAP behind it", x.of(0, 15), 12);
            due("of the other one", x.of(1, 15), 0);
        });
        S.test("SEGMENTS GIVEN of it (16),", () -> {
            RxQueues x = Made.together(2);
            due("none", x.of(0, 16), 0);
            x.packet(0, 1, true);
            x.packet(0, 1, false);
            x.poll(0);
            due("two", x.of(0, 16), 2);
            due("of the other one", x.of(1, 16), 0);
            Made.comeAndGo(x, 13);
            due("more than are kept", x.of(0, 16), 15);
        });
        S.test("READER (17; NONE),", () -> {
            RxQueues x = Made.together(1);
            due("none", x.of(0, 17), -1);
            x.reads(0, 0);
            due("0", x.of(0, 17), 0);
            x.reads(0, 3);
            due("3", x.of(0, 17), 3);
        });
        S.test("MARKED ones (18),", () -> {
            RxQueues x = Made.together(1);
            Made.packets(x, 0, 11, 1);
            due("11", x.of(0, 18), 0);
            Made.packets(x, 0, 1, 1);
            due("12", x.of(0, 18), 1);
            Made.packets(x, 0, 5, 1);
            due("17, one was LOST", x.of(0, 18), 5);
        });
        S.test("bytes of its SEGMENTS GIVEN (19).", () -> {
            RxQueues x = Made.together(2);
            x.gap(0, 5);
            x.packet(0, 7, false);
            x.packet(1, 1, false);
            due("none", x.of(0, 19), 0);
            x.poll(0);
            due("without the GAP", x.of(0, 19), 7);
            due("of the other one", x.of(1, 19), 1);
        });
        S.test("NONE for others.", () -> {
            RxQueues x = Made.together(2);
            for (int w : new int[] {-1, 20, LEAST, MOST}) {
                due("what " + w, x.of(1, w), -1);
            }
            for (int f : new int[] {-1, 2, 23, 24, LEAST, MOST}) {
                for (int w = 0; w < 20; w++) {
                    due("of(" + f + ", " + w + ")", x.of(f, w), -1);
                }
            }
            due("they are not REFUSED", x.count(10) + x.count(11) - x.status(), 0);
        });
    }

    private static void finding() {
        S.promise(23);
        S.test("The FLOW of FIELDS.", () -> {
            RxQueues x = Made.together(23);
            x.flow(255, 255, 255, 255, 1);
            due("the first", x.find(0, 0, 0, 0, 0), 0);
            due("the last", x.find(255, 255, 255, 255, 1), 23);
            x.mask(0);
            due("whatever counts", x.find(22, 0, 0, 0, 0), 22);
            due("it is no act", x.count(9), 8);
        });
        S.test("NONE.", () -> {
            RxQueues x = Made.together(1);
            due("without FLOWS", new RxQueues().find(0, 0, 0, 0, 0), -1);
            int[][] others = {{1, 0, 0, 0, 0}, {0, 1, 0, 0, 0}, {0, 0, 1, 0, 0}, {0, 0, 0, 1, 0}, {0, 0, 0, 0, 1},
                {-1, 0, 0, 0, 0}, {256, 0, 0, 0, 0}, {0, 0, 0, 0, 2}, {0, LEAST, 0, 0, 0}, {0, 0, MOST, 0, 0}};
            for (int[] o : others) {
                due("find()", x.find(o[0], o[1], o[2], o[3], o[4]), -1);
            }
            due("none came by it", x.count(1), 1);
            x.undo();
            due("one that was undone", x.find(0, 0, 0, 0, 0), -1);
        });
    }

    private static void missing() {
        S.promise(24);
        S.test("Of a FLOW's bytes ahead of NEXT those that were never taken and do not wait: of LOST PACKETS, "
                + "of GAPS (what 0);", () -> {
            RxQueues x = Made.together(2);
            x.terms(0, 1);
            due("nothing came", x.missing(0, 0), 0);
            x.packet(0, 10, false);
            due("it waits", x.missing(0, 0), 0);
            x.packet(0, 1500, false);
            due("LOST", x.missing(0, 0), 1500);
            x.gap(0, 9999);
            due("a GAP", x.missing(0, 0), 11499);
            x.poll(0);
            due("it was taken", x.missing(0, 0), 11499);
            x.packet(0, 10, false);
            x.poll(0);
            due("taken behind them", x.missing(0, 0), 11499);
            due("of the other one", x.missing(1, 0), 0);
            x.packet(1, 10, false);
            x.packet(0, 7, false);
            due("LOST by a PACKET of another FLOW", x.missing(0, 0), 11506);
        });
        S.test("those of the widest hole: of one row of them, between what was GIVEN or waits, at the end, too (1;", () -> {
            RxQueues x = Made.together(1);
            due("nothing came", x.missing(0, 1), 0);
            x.gap(0, 30);
            due("ahead of all", x.missing(0, 1), 30);
            x.packet(0, 10, false);
            due("ahead of one that waits", x.missing(0, 1), 30);
            x.gap(0, 29);
            due("1 less at the end", x.missing(0, 1), 30);
            x.gap(0, 2);
            due("1 more at the end, by two GAPS", x.missing(0, 1), 31);
            x.terms(0, 1);
            x.packet(0, 4, false);
            due("and a LOST one in the same row", x.missing(0, 1), 35);
            x.terms(0, 16);
            x.packet(0, 10, false);
            x.gap(0, 34);
            due("between two that wait", x.missing(0, 1), 35);
            x.gap(0, 2);
            due("at the end", x.missing(0, 1), 36);
        });
        S.test("by PLACES of PACKETS that wait, by the end of what was GIVEN: "
                + "all ahead of that is one part without holes).", () -> {
            RxQueues x = Made.together(1);
            x.gap(0, 30);
            x.packet(0, 10, false);
            x.gap(0, 20);
            x.packet(0, 10, false);
            x.poll(0);
            due("no hole is left", x.missing(0, 1), 0);
            due("but they are missing", x.missing(0, 0), 50);
            x.gap(0, 5);
            due("behind what was GIVEN", x.missing(0, 1), 5);
            x.packet(0, 10, false);
            x.gap(0, 6);
            due("behind what waits", x.missing(0, 1), 6);
            x.terms(0, 32);
            Made.packets(x, 0, 15, 1);
            x.gap(0, 3);
            x.packet(0, 1, false);
            due("the first row is the widest", x.missing(0, 1), 6);
            due("16 are taken, one waits", x.poll(0), 16);
            due("from the end of those on", x.missing(0, 1), 3);
        });
        S.test("NONE for others.", () -> {
            RxQueues x = Made.together(2);
            x.gap(0, 1);
            for (int w : new int[] {-1, 2, LEAST, MOST}) {
                due("what " + w, x.missing(0, w), -1);
            }
            for (int f : new int[] {-1, 2, 23, 24, LEAST, MOST}) {
                due("missing(" + f + ", 0)", x.missing(f, 0), -1);
                due("missing(" + f + ", 1)", x.missing(f, 1), -1);
            }
        });
    }

    private static void entries() {
        S.promise(25);
        S.test("Of an ENTRY its QUEUE (what 0),", () -> {
            RxQueues x = new RxQueues();
            due("0", x.entry(0, 0), 0);
            due("15", x.entry(15, 0), 3);
            x.table(15, 0);
            due("15 then", x.entry(15, 0), 0);
        });
        S.test("HITS (1),", () -> {
            RxQueues x = Made.onEntries(0, 15);
            due("none", x.entry(0, 1), 0);
            x.terms(0, 1);
            Made.packets(x, 1, 3, 1);
            due("LOST ones, too", x.entry(15, 1), 3);
            due("not of another", x.entry(0, 1), 0);
        });
        S.test("FLOWS, as bits (2).", () -> {
            RxQueues x = Made.together(24);
            due("all", x.entry(0, 2), 0xFFFFFF);
            due("none", x.entry(15, 2), 0);
            RxQueues y = Made.onEntries(15, 0, 15);
            due("15", y.entry(15, 2), 5);
            due("0", y.entry(0, 2), 2);
            y.steer(0, 0);
            due("whatever RULES there are", y.entry(15, 2), 5);
        });
        S.test("NONE for others.", () -> {
            RxQueues x = Made.together(2);
            for (int w : new int[] {-1, 3, LEAST, MOST}) {
                due("what " + w, x.entry(0, w), -1);
            }
            for (int e : new int[] {-1, 16, LEAST, MOST}) {
                for (int w = 0; w < 3; w++) {
                    due("entry(" + e + ", " + w + ")", x.entry(e, w), -1);
                }
            }
        });
    }

    private static void queues() {
        S.promise(26);
        S.test("Of a QUEUE how many PACKETS (what 0),", () -> {
            RxQueues x = Made.onEntries(3);
            x.terms(0, 32);
            due("none", x.queue(3, 0), 0);
            Made.packets(x, 0, 33, 1);
            due("32", x.queue(3, 0), 32);
            due("another", x.queue(0, 0), 0);
            x.terms(0, 1);
            due("more than ROOM", x.queue(3, 0), 32);
        });
        S.test("DELAY (1),", () -> {
            RxQueues x = Made.onEntries(3);
            x.packet(0, 1, false);
            x.tick(4);
            due("QUEUE 3", x.queue(3, 1), 2);
            due("QUEUE 0", x.queue(0, 1), 4);
        });
        S.test("SINCE (2; NONE),", () -> {
            RxQueues x = Made.onEntries(3);
            due("none", x.queue(3, 2), -1);
            x.packet(0, 1, false);
            due("0", x.queue(3, 2), 0);
            x.tick(4);
            due("none again", x.queue(3, 2), -1);
        });
        S.test("CALLS (3; poll() is one, too),", () -> {
            RxQueues x = Made.onEntries(3);
            due("none", x.queue(3, 3), 0);
            x.packet(0, 1, false);
            x.tick(4);
            due("by a TICK", x.queue(3, 3), 1);
            x.packet(0, 1, false);
            x.poll(3);
            due("by poll()", x.queue(3, 3), 2);
            x.poll(3);
            due("not by a REFUSED one", x.queue(3, 3), 2);
            due("another", x.queue(2, 3), 0);
        });
        S.test("PACKETS taken in all (4),", () -> {
            RxQueues x = Made.onEntries(3);
            x.terms(0, 32);
            x.burst(0, 20, 1);
            due("none", x.queue(3, 4), 0);
            x.tick(1);
            due("16 by a TICK", x.queue(3, 4), 16);
            x.poll(3);
            due("4 by poll()", x.queue(3, 4), 20);
        });
        S.test("LOST (5),", () -> {
            RxQueues x = Made.onEntries(3);
            x.burst(0, 16, 1);
            due("none", x.queue(3, 5), 0);
            x.packet(0, 1, false);
            due("one", x.queue(3, 5), 1);
            due("another", x.queue(0, 5), 0);
        });
    }

    private static void queuesInAll() {
        S.test("FLOWS whose WISH it is, as bits (6),", () -> {
            RxQueues x = Made.together(24);
            due("all", x.queue(0, 6), 0xFFFFFF);
            due("none", x.queue(3, 6), 0);
            x.steer(23, 3);
            due("by a RULE", x.queue(3, 6), 1 << 23);
            due("no more here", x.queue(0, 6), 0x7FFFFF);
            due("without FLOWS", new RxQueues().queue(0, 6), 0);
        });
        S.test("PACE (7), FRESH (8),", () -> {
            RxQueues x = Made.onEntries(3);
            x.packet(0, 1, false);
            due("FRESH", x.queue(3, 8), 1);
            due("PACE", x.queue(3, 7), 0);
            x.tick(1);
            due("FRESH behind a TICK", x.queue(3, 8), 0);
            due("PACE behind a TICK", x.queue(3, 7), 2);
            due("FRESH of another", x.queue(0, 8), 0);
            due("PACE of another", x.queue(0, 7), 0);
        });
        S.test("ENTRIES of it, as bits (9).", () -> {
            RxQueues x = new RxQueues();
            due("QUEUE 0", x.queue(0, 9), 0x1111);
            due("QUEUE 3", x.queue(3, 9), 0x8888);
            x.table(15, 0);
            due("QUEUE 0 then", x.queue(0, 9), 0x9111);
            x.balance();
            due("all", x.queue(0, 9), 0xFFFF);
            due("none", x.queue(3, 9), 0);
        });
        S.test("NONE for others.", () -> {
            RxQueues x = Made.together(2);
            for (int w : new int[] {-1, 10, LEAST, MOST}) {
                due("what " + w, x.queue(0, w), -1);
            }
            for (int q : new int[] {-1, 4, LEAST, MOST}) {
                for (int w = 0; w < 10; w++) {
                    due("queue(" + q + ", " + w + ")", x.queue(q, w), -1);
                }
            }
        });
    }

    private static void waiting() {
        S.promise(27);
        S.test("The i-th PACKET of a QUEUE (0 the first):", () -> {
            RxQueues x = Made.onEntries(3);
            x.terms(0, 32);
            for (int i = 0; i < 32; i++) {
                x.packet(0, i + 1, false);
            }
            due("the first", x.waits(3, 0, 2), 1);
            due("the last", x.waits(3, 31, 2), 32);
            due("behind it", x.waits(3, 32, 2), -1);
            x.poll(3);
            due("the first then", x.waits(3, 0, 2), 17);
            due("the last then", x.waits(3, 15, 2), 32);
            due("behind it then", x.waits(3, 16, 2), -1);
        });
        S.test("FLOW (what 0), PLACE (1), LONG (2), 1 if it is PRESSED (3).", () -> {
            RxQueues x = Made.together(24);
            x.gap(23, 9);
            x.packet(23, 1500, true);
            x.packet(23, 1, false);
            int[][] want = {{23, 9, 1500, 1}, {23, 1509, 1, 0}};
            for (int i = 0; i < 2; i++) {
                for (int w = 0; w < 4; w++) {
                    due("waits(0, " + i + ", " + w + ")", x.waits(0, i, w), want[i][w]);
                }
            }
        });
        S.test("NONE for others.", () -> {
            RxQueues x = Made.together(1);
            x.packet(0, 1, false);
            for (int w : new int[] {-1, 4, LEAST, MOST}) {
                due("what " + w, x.waits(0, 0, w), -1);
            }
            for (int w = 0; w < 4; w++) {
                for (int i : new int[] {-1, 1, 16, 32, LEAST, MOST}) {
                    due("i " + i, x.waits(0, i, w), -1);
                }
                for (int q : new int[] {-1, 4, LEAST, MOST}) {
                    due("QUEUE " + q, x.waits(q, 0, w), -1);
                }
                due("an empty QUEUE", x.waits(1, 0, w), -1);
            }
        });
    }

    private static void segments() {
        S.promise(28);
        S.test("Of a SEGMENT GIVEN, ago 0 the latest:", () -> {
            RxQueues x = Made.together(1);
            for (int n = 1; n <= 12; n++) {
                due("not yet " + n, x.segment(n - 1, 2), -1);
                x.packet(0, n, false);
                x.poll(0);
            }
            for (int ago = 0; ago < 12; ago++) {
                due("ago " + ago, x.segment(ago, 2), 12 - ago);
            }
        });
        S.test("FLOW (what 0), PLACE (1), LONG (2), PACKETS (3), PAGES (4), bytes that lie apart (5).", () -> {
            RxQueues x = Made.together(24);
            x.gap(23, 9);
            x.packet(23, 1000, false);
            x.packet(23, 65, false);
            x.poll(0);
            int[] want = {23, 9, 1065, 2, 2, 40};
            for (int w = 0; w < 6; w++) {
                due("segment(0, " + w + ")", x.segment(0, w), want[w]);
            }
            x.terms(4, 64);
            x.terms(5, 4096);
            due("as it was given", x.segment(0, 4), 2);
        });
        S.test("NONE for others.", () -> {
            RxQueues x = Made.together(1);
            for (int w = 0; w < 6; w++) {
                due("without any, what " + w, x.segment(0, w), -1);
            }
            Made.comeAndGo(x, 20);
            for (int w : new int[] {-1, 6, LEAST, MOST}) {
                due("what " + w, x.segment(0, w), -1);
            }
            for (int ago : new int[] {-1, 12, 13, LEAST, MOST}) {
                for (int w = 0; w < 6; w++) {
                    due("segment(" + ago + ", " + w + ")", x.segment(ago, w), -1);
                }
            }
        });
    }

    private static void given() {
        S.promise(29);
        S.test("In all: 0 SEGMENTS, 1 their PACKETS, 2 their bytes, 3 HEADS, 4 bytes apart, 5 BYTES on PAGES, 6 PAGES.", () -> {
            RxQueues x = Made.together(1);
            for (int w = 0; w < 7; w++) {
                due("without any, given(" + w + ")", x.given(w), 0);
            }
            for (int i = 0; i < 13; i++) {
                x.packet(0, 40, false);
                x.packet(0, 1025, false);
                due("what waits is not given " + i, x.given(0), i);
                x.poll(0);
            }
            x.terms(4, 0);
            Made.comeAndGo(x, 1);
            long[] want = {14, 27, 13 * 1065 + 1, 13, 13 * 40, 13 * 1025 + 1, 27};
            for (int w = 0; w < 7; w++) {
                due("given(" + w + ")", x.given(w), want[w]);
            }
        });
        S.test("NONE for others.", () -> {
            RxQueues x = Made.together(1);
            Made.comeAndGo(x, 1);
            for (int w : new int[] {-1, 7, LEAST, MOST}) {
                due("given(" + w + ")", x.given(w), -1);
                due("without any, given(" + w + ")", new RxQueues().given(w), -1);
            }
        });
    }

    private static void windowsAndWays() {
        S.promise(30);
        S.test("Bits of the KEY from bit i on, 32, as an int (any int; i 0 .. 40).", () -> {
            RxQueues x = new RxQueues();
            x.key(LEAST, MOST, 255);
            due("0", x.window(0), LEAST);
            due("1", x.window(1), 0);
            due("31", x.window(31), 0x3FFFFFFF);
            due("32", x.window(32), MOST);
            due("33", x.window(33), -1);
            due("40", x.window(40), -1);
            x.key(0, 0, 1);
            due("39", x.window(39), 0);
            due("40 has the last bit", x.window(40), 1);
        });
        S.test("0 for others.", () -> {
            RxQueues x = new RxQueues();
            x.key(-1, -1, 255);
            for (int i : new int[] {-1, 41, LEAST, MOST}) {
                due("window(" + i + ")", x.window(i), 0);
            }
        });
        S.promise(31);
        S.test("Whether by KEY and MASK any FIELDS and those with FROM and TO, PORT and OTHER exchanged (all four) "
                + "have one HASH.", () -> {
            RxQueues x = new RxQueues();
            S.due("KEY 0", x.isBothWays(), true);
            for (int bit = 0; bit < 72; bit++) {
                oneBit(x, bit);
                for (int v = 0; v < 32; v++) {
                    x.mask(v);
                    boolean want = pairAgrees(bit, v, 0) && pairAgrees(bit, v, 2);
                    S.due("bit " + bit + " alone, MASK " + v, x.isBothWays(), want);
                }
            }
            x.mask(31);
            for (int b = 0; b < 256; b++) {
                x.key(b * 0x01010101, b * 0x01010101, b);
                S.due("byte " + b + " nine times", x.isBothWays(), true);
            }
            x.key(0x00010001, 0x00010001, 0);
            S.due("two bytes in turn", x.isBothWays(), false);
        });
    }

    private static void oneBit(RxQueues x, int bit) {
        x.key(bit < 32 ? 1 << 31 - bit : 0, bit >= 32 && bit < 64 ? 1 << 63 - bit : 0, bit >= 64 ? 1 << 71 - bit : 0);
    }

    /** A bit that is 1 alone lies in other places of the windows of the two fields, and so may be in none that count. */
    private static boolean pairAgrees(int bit, int mask, int field) {
        boolean first = (mask & 1 << field) != 0 && bit >= 8 * field && bit <= 8 * field + 38;
        boolean second = (mask & 2 << field) != 0 && bit >= 8 * field + 8 && bit <= 8 * field + 46;
        return !first && !second;
    }

    private static void reachAndAim() {
        S.promise(32);
        S.test("How many ENTRIES can be hit by any FIELDS.", () -> {
            RxQueues x = new RxQueues();
            due("KEY 0", x.reach(), 1);
            for (int bit = 0; bit < 72; bit++) {
                oneBit(x, bit);
                for (int v = 0; v < 32; v++) {
                    x.mask(v);
                    int want = 1;
                    for (int i = Math.max(0, bit - 31); i <= bit - 28; i++) {
                        want *= (i < 32 || i == 39) && (v & 1 << i / 8) != 0 ? 2 : 1;
                    }
                    due("bit " + bit + " alone, MASK " + v, x.reach(), want);
                }
            }
            x.mask(31);
            x.key(-1, -1, 255);
            due("all bits", x.reach(), 2);
            Random random = new Random(32);
            for (int i = 0; i < 300; i++) {
                x.key(0, random.nextInt() & random.nextInt() & random.nextInt(), random.nextInt(256) & random.nextInt());
                x.mask(random.nextInt(32));
                due("KEY " + x.window(32) + ", MASK " + x.count(3), x.reach(), entriesByTrying(x));
            }
        });
        S.promise(33);
        S.test("The least PORT 0 .. 255 by which FIELDS of a FLOW, all others as they are, would hit an ENTRY.", () -> {
            RxQueues x = new RxQueues();
            // window(16) ends with 1, window(17) with 2, window(18) with 4, window(19) with 8; OTHER's have none of it
            x.key(0, 1 << 16, 0);
            x.flow(0, 0, 255, 0, 0);
            due("the least of all", x.aim(0, 0), 0);
            due("the most that can be the least", x.aim(0, 15), 240);
            for (int e = 0; e < 16; e++) {
                int port = x.aim(0, e);
                int f = x.flow(0, 0, port, 0, 0);
                due("PORT " + port + " hits " + e, x.of(f, 5), e);
            }
            // window(7), of FROM's last bit, ends with 1; window(23), of PORT's last bit, too
            RxQueues y = new RxQueues();
            y.key(0, 1 << 25 | 1 << 9, 0);
            y.flow(1, 0, 0, 0, 0);
            due("FROM stays as it is", y.aim(0, y.of(0, 5)), 0);
            due("but another ENTRY", y.aim(0, y.of(0, 5) ^ 1), 1);
        });
        S.test("NONE.", () -> {
            RxQueues x = Made.onEntries(15, 0);
            due("no PORT does", x.aim(0, 0), -1);
            due("any does", x.aim(0, 15), 0);
            for (int e : new int[] {-1, 16, LEAST, MOST}) {
                due("ENTRY " + e, x.aim(0, e), -1);
            }
            for (int f : new int[] {-1, 2, 23, 24, LEAST, MOST}) {
                due("FLOW " + f, x.aim(f, 0), -1);
            }
            RxQueues y = new RxQueues();
            y.key(0, 1 << 16, 0);
            y.flow(0, 0, 240, 0, 0);
            y.mask(27);
            due("PORT does not count", y.aim(0, 15), -1);
            due("PORT does not count, 0", y.aim(0, 0), 0);
        });
    }

    /** By all values of each field, one after the other. */
    private static int entriesByTrying(RxQueues x) {
        Set<Integer> hit = new TreeSet<>(Set.of(0));
        for (int field = 0; field < 5; field++) {
            Set<Integer> more = new TreeSet<>();
            for (int v = 0; v < (field == 4 ? 2 : 256); v++) {
                int[] f = new int[5];
                f[field] = v;
                int entry = x.hash(f[0], f[1], f[2], f[3], f[4]) & 15;
                for (int e : hit) {
                    more.add(e ^ entry);
                }
            }
            hit = more;
        }
        return hit.size();
    }

    private static void spread() {
        S.promise(34);
        S.test("With the same byte 0 .. 255 nine times as KEY, on paper: "
                + "the least byte by which FLOWS have most unlike ENTRIES (what 0), how many these are (1).", () -> {
            int[] masks = {31, 0, 16, 1, 30};
            for (int n : new int[] {1, 2, 3, 16, 17, 24}) {
                RxQueues x = new RxQueues();
                x.key(5, 6, 7);
                for (int f = 0; f < n; f++) {
                    x.flow(f * 37 % 256, f * 101 % 256, f * f % 256, 255 - f, f % 2);
                }
                for (int v : masks) {
                    x.mask(v);
                    int[] want = spreadByTrying(x);
                    due(n + " FLOWS, MASK " + v + ", the byte", x.spread(0), want[0]);
                    due(n + " FLOWS, MASK " + v + ", how many", x.spread(1), want[1]);
                }
                due("the KEY is as it was", x.window(0), 5);
            }
            RxQueues y = Made.together(1);
            due("one FLOW, the byte", y.spread(0), 0);
            due("one FLOW, how many", y.spread(1), 1);
        });
        S.test("NONE without FLOWS, for others.", () -> {
            RxQueues x = new RxQueues();
            due("without FLOWS, 0", x.spread(0), -1);
            due("without FLOWS, 1", x.spread(1), -1);
            x.flow(0, 0, 0, 0, 0);
            for (int w : new int[] {-1, 2, LEAST, MOST}) {
                due("spread(" + w + ")", x.spread(w), -1);
            }
        });
    }

    /** By putting each key to the object itself; the first key stands again behind it. */
    private static int[] spreadByTrying(RxQueues x) {
        int best = -1;
        int most = 0;
        for (int b = 0; b < 256; b++) {
            x.key(b * 0x01010101, b * 0x01010101, b);
            Set<Integer> unlike = new TreeSet<>();
            for (int f = 0; f < x.count(1); f++) {
                unlike.add(x.of(f, 5));
            }
            if (unlike.size() > most) {
                most = unlike.size();
                best = b;
            }
            x.undo();
        }
        return new int[] {best, most};
    }

    private static void ratio() {
        S.promise(35);
        S.test("In lowest terms bytes by PACKETS of SEGMENTS in all (what 0 the upper number, 1 the lower one),", () -> {
            RxQueues x = Made.together(1);
            Made.packets(x, 0, 2, 3);
            x.poll(0);
            due("6 by 2, upper", x.ratio(0), 3);
            due("6 by 2, lower", x.ratio(1), 1);
            Made.packets(x, 0, 1, 4);
            x.poll(0);
            due("10 by 3, upper", x.ratio(0), 10);
            due("10 by 3, lower", x.ratio(1), 3);
            Made.packets(x, 0, 1, 4);
            x.poll(0);
            due("14 by 4, upper", x.ratio(0), 7);
            due("14 by 4, lower", x.ratio(1), 2);
            Made.packets(x, 0, 1, 1);
            due("what waits is nothing to it", x.ratio(0), 7);
        });
        S.test("PACKETS by SEGMENTS (2, 3).", () -> {
            RxQueues x = Made.together(1);
            Made.packets(x, 0, 4, 9);
            x.poll(0);
            due("4 by 1, upper", x.ratio(2), 4);
            due("4 by 1, lower", x.ratio(3), 1);
            Made.comeAndGo(x, 1);
            due("5 by 2, upper", x.ratio(2), 5);
            due("5 by 2, lower", x.ratio(3), 2);
            Made.comeAndGo(x, 2);
            due("7 by 4, upper", x.ratio(2), 7);
            due("7 by 4, lower", x.ratio(3), 4);
            Made.packets(x, 0, 3, 1);
            x.poll(0);
            due("10 by 5, upper", x.ratio(2), 2);
            due("10 by 5, lower", x.ratio(3), 1);
            RxQueues y = Made.together(1);
            y.terms(3, 1);
            Made.packets(y, 0, 3, 1);
            y.poll(0);
            due("3 by 3, upper", y.ratio(2), 1);
            due("3 by 3, lower", y.ratio(3), 1);
        });
        S.test("NONE without any, for others.", () -> {
            RxQueues x = Made.together(1);
            x.packet(0, 1, false);
            for (int w = 0; w < 4; w++) {
                due("without any, " + w, x.ratio(w), -1);
            }
            x.poll(0);
            for (int w : new int[] {-1, 4, LEAST, MOST}) {
                due("ratio(" + w + ")", x.ratio(w), -1);
            }
        });
    }

    private static void alike() {
        S.promise(36);
        S.test("Two FLOWS with the same HASH, the first by the lesser, then the other one: "
                + "100 times it and the other one.", () -> {
            // OTHER tells the flows apart by its 8 windows; SORT's window is 0
            for (int[] pair : new int[][] {{0, 1}, {0, 23}, {1, 2}, {22, 23}, {5, 17}}) {
                RxQueues x = new RxQueues();
                x.key(1, 0, 0);
                for (int f = 0; f < 24; f++) {
                    boolean second = f == pair[1];
                    x.flow(0, 0, 0, second ? pair[0] : f, second ? 1 : 0);
                }
                due(pair[0] + " and " + pair[1], x.alike(), 100 * pair[0] + pair[1]);
            }
            RxQueues y = Made.onEntries(1, 2, 2, 1);
            due("ENTRIES are not enough", y.alike(), -1);
            y.mask(1);
            due("0 and 3 ahead of 1 and 2", y.alike(), 3);
            RxQueues z = Made.together(24);
            due("all alike", z.alike(), 1);
        });
        S.test("NONE.", () -> {
            due("without FLOWS", new RxQueues().alike(), -1);
            due("one FLOW", Made.together(1).alike(), -1);
            RxQueues x = Made.together(24);
            x.key(1, 0, 0);
            due("24 unlike ones", x.alike(), -1);
        });
    }

    private static void load() {
        S.promise(37);
        S.test("HITS of all ENTRIES of the QUEUE that has most (what 0), least (1) by the TABLE;", () -> {
            due("no HITS, most", new RxQueues().load(0), 0);
            due("no HITS, least", new RxQueues().load(1), 0);
            RxQueues x = Made.withHits(5, 4, 3, 2, 1);
            due("most, QUEUE 0", x.load(0), 6);
            due("least, QUEUE 3", x.load(1), 2);
            x.table(3, 0);
            due("most then", x.load(0), 8);
            due("least then", x.load(1), 0);
            for (int q = 0; q < 4; q++) {
                int[] hits = {3, 3, 3, 3};
                hits[q] = 5;
                due("most, QUEUE " + q, Made.withHits(hits).load(0), 5);
                hits[q] = 2;
                due("least, QUEUE " + q, Made.withHits(hits).load(1), 2);
            }
            RxQueues y = Made.withHits(2, 3, 4, 5);
            y.balance();
            due("most behind balance()", y.load(0), 0);
        });
        S.test("the most by a BALANCED one (2).", () -> {
            due("no HITS", new RxQueues().load(2), 0);
            RxQueues x = Made.withHits(1, 1, 1, 1, 1);
            due("five like ones", x.load(2), 2);
            RxQueues y = Made.withHits(3, 3, 2, 2, 2);
            // 3, 3, 2, 2 and the last one to the third
            due("as they are dealt", y.load(2), 4);
            due("on paper", y.entry(4, 0), 0);
            due("HITS stay", y.entry(4, 1), 2);
        });
        S.test("NONE for others.", () -> {
            RxQueues x = Made.withHits(1);
            for (int w : new int[] {-1, 3, LEAST, MOST}) {
                due("load(" + w + ")", x.load(w), -1);
            }
        });
    }

    private static void would() {
        S.promise(38);
        S.test("On paper: behind n (1 .. 100) TICKS", () -> {
            RxQueues x = Made.together(1);
            x.packet(0, 1, false);
            x.steer(0, 1);
            x.terms(2, 99);
            long before = Look.atAll(x);
            due("1", x.would(1, 0), 1);
            due("99", x.would(99, 3), 1);
            due("100", x.would(100, 3), 0);
            due("nothing changes", Look.atAll(x), before);
            due("nothing to be undone", x.count(9), 4);
        });
        S.test("PACKETS in all QUEUES (what 0), SEGMENTS GIVEN in them (1), CALLS in them (2), RULES that are left (3).", () -> {
            RxQueues x = Made.onEntries(0, 1);
            x.terms(3, 1);
            x.terms(2, 2);
            x.burst(0, 4, 1);
            x.poll(0);
            x.steer(0, 2);
            x.burst(0, 4, 1);
            // queue 1 has 4 of time 0, queue 2 has 2 of time 0
            int[] ticks = {1, 2, 3, 4, 5};
            int[][] want = {{6, 0, 0, 1}, {6, 0, 0, 1}, {6, 0, 0, 0}, {0, 6, 2, 0}, {0, 6, 2, 0}};
            for (int i = 0; i < ticks.length; i++) {
                for (int w = 0; w < 4; w++) {
                    due("would(" + ticks[i] + ", " + w + ")", x.would(ticks[i], w), want[i][w]);
                }
            }
            RxQueues y = new RxQueues();
            for (int w = 0; w < 4; w++) {
                due("of a new object, " + w, y.would(100, w), 0);
            }
        });
        S.test("NONE for others (TIME above 99,999, too).", () -> {
            RxQueues x = Made.together(1);
            for (int w = 0; w < 4; w++) {
                for (int n : new int[] {0, -1, 101, LEAST, MOST}) {
                    due("would(" + n + ", " + w + ")", x.would(n, w), -1);
                }
            }
            for (int w : new int[] {-1, 4, LEAST, MOST}) {
                due("would(1, " + w + ")", x.would(1, w), -1);
            }
            Made.tickUntil(x, 99900);
            for (int w = 0; w < 4; w++) {
                due("to 99,999, " + w, x.would(99, w), 0);
                due("to 100,000, " + w, x.would(100, w), -1);
            }
            x.tick(99);
            due("at the end", x.would(1, 0), -1);
            due("it is not REFUSED", x.status(), 0);
        });
    }

    /** 31 packets wait, MANY is 32, DELAY is 16. */
    private static RxQueues slowest() {
        RxQueues x = Made.together(1);
        for (int i = 0; i < 2; i++) {
            x.burst(0, 8, 1);
            x.tick(1);
        }
        x.terms(0, 32);
        x.terms(1, 32);
        x.burst(0, 20, 1);
        x.burst(0, 11, 1);
        return x;
    }

    private static void drain() {
        S.promise(39);
        S.test("On paper: in how many TICKS (200 at most, up to TIME 99,999) all QUEUES are empty (0: they are).", () -> {
            due("they are", new RxQueues().drain(), 0);
            RxQueues x = Made.onEntries(0, 3);
            x.terms(1, 1);
            x.packet(0, 1, false);
            due("1", x.drain(), 1);
            x.terms(1, 8);
            x.tick(1);
            x.packet(1, 1, false);
            due("the last QUEUE", x.drain(), 4);
            due("on paper", x.count(4), 2);
            RxQueues y = slowest();
            due("the most that can be", y.drain(), 32);
            y.tick(31);
            due("one less", y.drain(), 1);
            y.tick(1);
            due("empty", y.drain(), 0);
            RxQueues z = Made.together(1);
            Made.tickUntil(z, 99995);
            z.packet(0, 1, false);
            due("by TIME 99,999", z.drain(), 4);
        });
        S.test("NONE.", () -> {
            RxQueues x = Made.together(1);
            Made.tickUntil(x, 99996);
            due("empty", x.drain(), 0);
            x.packet(0, 1, false);
            due("not by TIME 99,999", x.drain(), -1);
            x.tick(3);
            due("no TICK is left", x.drain(), -1);
            x.poll(0);
            due("empty at the end", x.drain(), 0);
        });
    }

    private static void nextCall() {
        S.promise(40);
        S.test("On paper: in how many TICKS (up to TIME 99,999) a QUEUE CALLS next.", () -> {
            RxQueues x = Made.onEntries(0, 3);
            x.packet(1, 1, false);
            due("by DELAY", x.nextCall(3), 4);
            x.tick(3);
            due("the least", x.nextCall(3), 1);
            x.burst(0, 1, 1);
            due("another QUEUE", x.nextCall(0), 4);
            due("on paper", x.count(8), 0);
            RxQueues y = slowest();
            due("the most", y.nextCall(0), 16);
            y.packet(0, 1, false);
            due("MANY", y.nextCall(0), 1);
            RxQueues z = Made.together(1);
            Made.tickUntil(z, 99995);
            z.packet(0, 1, false);
            due("at TIME 99,999", z.nextCall(0), 4);
        });
        S.test("NONE (it has no PACKETS; not by then; others).", () -> {
            RxQueues x = Made.together(1);
            Made.tickUntil(x, 99996);
            due("it has no PACKETS", x.nextCall(0), -1);
            x.packet(0, 1, false);
            due("not by then", x.nextCall(0), -1);
            due("another has no PACKETS", x.nextCall(3), -1);
            x.terms(1, 1);
            due("MANY by then", x.nextCall(0), 1);
            x.tick(3);
            x.packet(0, 1, false);
            due("no TICK is left", x.nextCall(0), -1);
            for (int q : new int[] {-1, 4, LEAST, MOST}) {
                due("QUEUE " + q, x.nextCall(q), -1);
            }
        });
    }

    private static void joined() {
        S.promise(41);
        S.test("On paper: SEGMENTS that a QUEUE would give, were all its PACKETS taken at once, 16 by 16 (what 0),", () -> {
            int[][] want = {{0, 0}, {1, 1}, {16, 1}, {17, 2}, {32, 2}};
            for (int[] w : want) {
                RxQueues x = Made.onEntries(3);
                x.terms(0, 32);
                Made.packets(x, 0, w[0], 1);
                due("of " + w[0], x.joined(3, 0), w[1]);
                due("on paper, " + w[0], x.queue(3, 0), w[0]);
                due("nothing was given, " + w[0], x.given(0), 0);
            }
            RxQueues y = Made.together(1);
            y.terms(3, 20);
            Made.packets(y, 0, 3, 10);
            due("by LONGEST", y.joined(0, 0), 2);
            y.packet(0, 1, true);
            due("PRESSED joins the second", y.joined(0, 0), 2);
            y.packet(0, 1, false);
            due("a third behind it", y.joined(0, 0), 3);
            y.poll(0);
            due("nothing waits, three were given", y.joined(0, 0), 0);
            y.packet(0, 1, false);
            due("one more waits", y.joined(0, 0), 1);
        });
        S.test("and were LONGEST 9,999 (1), 1 (2).", () -> {
            RxQueues x = Made.together(1);
            due("empty, 1", x.joined(0, 1), 0);
            due("empty, 2", x.joined(0, 2), 0);
            x.terms(3, 100);
            Made.packets(x, 0, 9, 1111);
            due("by LONGEST 100", x.joined(0, 0), 9);
            due("9,999 in one", x.joined(0, 1), 1);
            due("each alone", x.joined(0, 2), 9);
            x.packet(0, 1, false);
            due("10,000 in two", x.joined(0, 1), 2);
            due("each alone again", x.joined(0, 2), 10);
            due("LONGEST is as it was", x.count(17), 100);
        });
        S.test("NONE for others.", () -> {
            RxQueues x = Made.together(1);
            x.packet(0, 1, false);
            for (int w : new int[] {-1, 3, LEAST, MOST}) {
                due("what " + w, x.joined(0, w), -1);
            }
            for (int q : new int[] {-1, 4, LEAST, MOST}) {
                for (int w = 0; w < 3; w++) {
                    due("joined(" + q + ", " + w + ")", x.joined(q, w), -1);
                }
            }
        });
    }

    private static void counts() {
        S.promise(42);
        S.test("0 TIME, 1 FLOWS, 2 RULES, 3 MASK,", () -> {
            RxQueues x = Made.together(24);
            x.tick(100);
            for (int f = 0; f < 7; f++) {
                x.steer(f, 0);
            }
            due("TIME", x.count(0), 100);
            due("FLOWS", x.count(1), 24);
            due("RULES", x.count(2), 6);
            due("MASK", x.count(3), 31);
            x.mask(0);
            due("MASK 0", x.count(3), 0);
        });
        S.test("4 PACKETS in all QUEUES, 5 those that came, 6 LOST, 7 how often one STUCK, 8 CALLS,", () -> {
            RxQueues x = Made.onEntries(0, 1, 2, 3);
            x.terms(0, 4);
            x.burst(0, 20, 1);
            due("PACKETS", x.count(4), 16);
            due("came", x.count(5), 20);
            due("LOST", x.count(6), 4);
            due("STUCK", x.count(7), 0);
            x.table(3, 0);
            x.packet(3, 1, false);
            due("STUCK then", x.count(7), 1);
            x.tick(4);
            x.packet(0, 1, false);
            x.poll(0);
            due("CALLS", x.count(8), 5);
            due("none wait", x.count(4), 0);
        });
        S.test("9 how many can be undone,", () -> {
            RxQueues x = new RxQueues();
            for (int i = 0; i < 10; i++) {
                due("behind " + i, x.count(9), Math.min(8, i));
                x.mask(i);
            }
            x.undo();
            due("one less", x.count(9), 7);
            x.image(0);
            x.back(0);
            due("none behind back()", x.count(9), 0);
        });
        S.test("10 .. 13 how many calls were REFUSED by -1, -2, -4, -5,", () -> {
            RxQueues x = Made.together(24);
            for (int w = 10; w < 14; w++) {
                due("none, " + w, x.count(w), 0);
            }
            x.mask(-1);
            x.image(2);
            x.back(2);
            x.free(0);
            x.free(24);
            x.poll(0);
            x.back(0);
            x.flow(100, 0, 0, 0, 0);
            x.of(-1, 0);
            x.hash(-1, 0, 0, 0, 0);
            int[] want = {3, 2, 2, 1};
            for (int w = 0; w < 4; w++) {
                due("count(" + (10 + w) + ")", x.count(10 + w), want[w]);
            }
            x.image(0);
            for (int i = 0; i < 8; i++) {
                x.undo();
            }
            due("undo() leaves it", x.count(10), 3);
            x.undo();
            due("undo() of none", x.count(12), 3);
            x.back(0);
            due("back() leaves it", x.count(12), 3);
        });
        S.test("14 + k TERM k,", () -> {
            int[] first = {16, 8, 40, 4000, 40, 1024, 0, 0, 12};
            RxQueues x = new RxQueues();
            for (int k = 0; k < 9; k++) {
                due("count(" + (14 + k) + ")", x.count(14 + k), first[k]);
            }
            x.terms(0, 1);
            x.terms(8, 32);
            due("the first", x.count(14), 1);
            due("the last", x.count(22), 32);
        });
        S.test("23 how often a RULE FOLLOWED, 24 MARKED ones.", () -> {
            RxQueues x = Made.together(2);
            x.terms(6, 1);
            x.terms(8, 2);
            due("none FOLLOWED", x.count(23), 0);
            due("none MARKED", x.count(24), 0);
            x.reads(0, 3);
            x.reads(1, 2);
            x.burst(0, 2, 1);
            due("MARKED", x.count(24), 1);
            x.poll(0);
            due("FOLLOWED", x.count(23), 2);
            x.steer(0, 1);
            due("not by steer()", x.count(23), 2);
            x.retire(3);
            due("gone ones, too", x.count(23), 2);
        });
        S.test("NONE for others.", () -> {
            for (int w : new int[] {-1, 25, LEAST, MOST}) {
                due("count(" + w + ")", Made.busy().count(w), -1);
            }
        });
    }

    /** A call that is refused (first) or not; balance() never is. */
    private static int call(RxQueues x, int which, boolean wrong) {
        switch (which) {
            case 0: return x.key(0, 0, wrong ? 256 : 255);
            case 1: return x.mask(wrong ? 32 : 31);
            case 2: return x.flow(0, 0, 0, 0, wrong ? 2 : 1);
            case 3: return x.table(wrong ? 16 : 15, 0);
            case 4: return x.balance();
            case 5: return x.reads(0, wrong ? 4 : 3);
            case 6: return x.retire(wrong ? 4 : 3);
            case 7: return x.steer(wrong ? 9 : 0, 3);
            case 8: return x.free(wrong ? 1 : 0);
            case 9: return x.terms(0, wrong ? 33 : 32);
            case 10: return x.packet(0, wrong ? 1501 : 1500, false);
            case 11: return x.burst(0, wrong ? 21 : 20, 1);
            case 12: return x.gap(0, wrong ? 10000 : 9999);
            case 13: return x.tick(wrong ? 101 : 100);
            case 14: return x.poll(wrong ? 3 : 0);
            case 15: return x.undo();
            case 16: return x.image(wrong ? 2 : 1);
            default: return x.back(wrong ? 1 : 0);
        }
    }

    private static void status() {
        S.promise(43);
        S.test("What the latest call of key, mask, flow, table, balance, reads, retire, steer, free, terms, packet, "
                + "burst, gap, tick, poll, undo, image, back was REFUSED by;", () -> {
            int[] why = {-1, -1, -1, -1, 0, -1, -1, -2, -2, -1, -1, -1, -1, -1, -4, -4, -1, -4};
            for (int which = 0; which < 18; which++) {
                RxQueues x = ready();
                if (which == 15) {
                    x.back(0);
                }
                int got = call(x, which, true);
                due("call " + which, x.status(), why[which]);
                if (which != 4) {
                    due("answer of call " + which, got, why[which]);
                }
                x.of(99, 99);
                x.would(0, 0);
                x.nextCall(9);
                due("questions leave it, " + which, x.status(), why[which]);
                due("asked twice, " + which, x.status(), why[which]);
            }
            RxQueues y = Made.together(24);
            y.flow(99, 0, 0, 0, 0);
            due("-5", y.status(), -5);
        });
        S.test("0 if it was not, or ahead of any.", () -> {
            due("ahead of any", new RxQueues().status(), 0);
            for (int which = 0; which < 18; which++) {
                RxQueues x = ready();
                x.mask(-1);
                due("ahead of call " + which, x.status(), -1);
                call(x, which, false);
                due("behind call " + which, x.status(), 0);
            }
            RxQueues y = Made.together(24);
            y.mask(-1);
            y.flow(0, 0, 0, 0, 0);
            due("a FLOW that there is", y.status(), 0);
        });
    }

    private static RxQueues ready() {
        RxQueues x = Made.together(1);
        x.steer(0, 0);
        x.packet(0, 1, false);
        x.image(0);
        return x;
    }
}
