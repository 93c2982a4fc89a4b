/** Promises 17 to 19, 42 and 43: acts taken back, images, counts and what a call was refused by. */
public final class HistoryTest {
    private static final Check CHECK = new Check();

    public static void main(String[] args) {
        everyAct();
        eightAreKept();
        noActs();
        refusedStay();
        images();
        imagesAndUndo();
        counts();
        states();
        CHECK.finish();
    }

    private static void due(String call, long got, long want) {
        CHECK.due(call, got, want);
    }

    private static RxQueues busy() {
        RxQueues x = new RxQueues();
        x.key(1, 0, 0);
        x.flow(128, 0, 0, 0, 0);
        x.flow(64, 0, 0, 0, 0);
        x.flow(0, 0, 0, 0, 0);
        x.reads(0, 3);
        x.terms(6, 1);
        x.terms(1, 7);
        x.terms(8, 9);
        x.burst(0, 20, 300);
        x.tick(1);
        x.steer(1, 0);
        x.table(0, 2);
        x.burst(0, 7, 50);
        return x;
    }

    private static int doAct(RxQueues x, int act) {
        switch (act) {
            case 0: return x.key(7, 7, 7);
            case 1: return x.mask(5);
            case 2: return x.flow(9, 9, 9, 9, 1);
            case 3: return x.table(3, 0);
            case 4: return x.balance();
            case 5: return x.steer(2, 1);
            case 6: return x.free(1);
            case 7: return x.terms(0, 2);
            case 8: return x.packet(0, 99, true);
            case 9: return x.burst(1, 9, 9);
            case 10: return x.gap(0, 77);
            case 11: return x.tick(60);
            case 12: return x.poll(0);
            case 13: return x.reads(1, 2);
            default: return x.retire(0);
        }
    }

    private static void everyAct() {
        for (int act = 0; act < 15; act++) {
            RxQueues x = busy();
            long before = Look.atAll(x);
            doAct(x, act);
            due("act " + act + ": status()", x.status(), 0);
            CHECK.due("act " + act + " changes something", Look.atAll(x) != before, true);
            long behind = Look.atAll(x);
            due("act " + act + ": undo()", x.undo(), act);
            due("act " + act + ": all is as it was", Look.atAll(x), before);
            doAct(x, act);
            due("act " + act + ": once more", Look.atAll(x), behind);
        }
    }

    private static void eightAreKept() {
        RxQueues x = busy();
        due("undo: 8 can be", x.count(9), 8);
        int[] latest = {9, 3, 5, 11, 9, 7, 7, 7};
        for (int i = 0; i < 8; i++) {
            due("undo: " + i, x.undo(), latest[i]);
            due("undo: count(9) " + i, x.count(9), 7 - i);
        }
        due("undo: no more", x.undo(), -4);
        due("undo: status()", x.status(), -4);
        due("undo: the reader is left", x.of(0, 17), 3);
        due("undo: nothing came", x.count(5), 0);
        due("undo: count(12)", x.count(12), 1);
        x.mask(3);
        due("undo: a new act", x.undo(), 1);
        due("undo: status() then", x.status(), 0);
    }

    private static void noActs() {
        RxQueues x = new RxQueues();
        x.flow(1, 1, 1, 1, 1);
        due("undo: count(9)", x.count(9), 1);
        x.flow(1, 1, 1, 1, 1);
        x.flow(1, 1, 1, 1, 2);
        x.mask(99);
        x.poll(0);
        x.free(0);
        x.image(0);
        due("undo: refused calls and known flows are none", x.count(9), 1);
        due("undo: the flow", x.undo(), 2);
        due("undo: it is gone", x.find(1, 1, 1, 1, 1), -1);
        due("undo: an act that changes nothing is one", x.mask(31), 31);
        due("undo: that", x.undo(), 1);
        x.flow(5, 5, 5, 5, 0);
        x.gap(0, 500);
        x.steer(0, 1);
        x.undo();
        x.undo();
        x.undo();
        due("undo: a new flow in its place", x.flow(6, 6, 6, 6, 0), 0);
        due("undo: has nothing of the old one", x.of(0, 9), 0);
        due("undo: nor its rule", x.of(0, 13), -1);
    }

    private static void refusedStay() {
        RxQueues x = new RxQueues();
        x.mask(1);
        x.mask(99);
        x.mask(99);
        x.free(0);
        x.image(0);
        x.poll(0);
        x.undo();
        due("refused: -1 by undo()", x.count(10), 2);
        due("refused: -2 by undo()", x.count(11), 1);
        x.back(0);
        due("refused: -4 by back()", x.count(12), 1);
        due("refused: -1 by back()", x.count(10), 2);
    }

    private static void images() {
        RxQueues x = busy();
        due("image: 2", x.image(2), -1);
        due("image: -1", x.image(-1), -1);
        due("back: 2", x.back(2), -1);
        due("back: -1", x.back(-1), -1);
        due("back: not kept", x.back(0), -4);
        due("back: status()", x.status(), -4);
        due("image: 0", x.image(0), 1);
        due("image: status()", x.status(), 0);
        long first = Look.atAll(x);
        x.tick(30);
        x.flow(200, 0, 0, 0, 0);
        due("image: 1", x.image(1), 31);
        long second = Look.atAll(x);
        x.mask(0);
        x.burst(0, 20, 20);
        due("back: 0", x.back(0), 1);
        due("back: all of it", Look.atAll(x), first);
        due("back: nothing can be undone", x.count(9), 0);
        due("back: undo()", x.undo(), -4);
        x.packet(0, 5, false);
        due("back: 1", x.back(1), 31);
        due("back: all of 1", Look.atAll(x), second);
        due("back: again 0", x.back(0), 1);
        due("back: the image was not touched", Look.atAll(x), first);
        x.tick(1);
        due("image: in place of the first", x.image(0), 2);
        x.tick(1);
        due("back: to the new one", x.back(0), 2);
    }

    private static void imagesAndUndo() {
        RxQueues x = busy();
        x.tick(2);
        x.image(0);
        due("image: can still be undone", x.count(9), 8);
        due("image: undo()", x.undo(), 11);
        due("image: is still kept", x.back(0), 3);
        x.packet(0, 1, false);
        x.back(1);
        due("back: refused, the act can still be undone", x.undo(), 8);
    }

    private static void counts() {
        RxQueues x = busy();
        // flows 0 and 1 were taken and given at the tick, 6 packets of flow 2 waited on where 2 more stuck
        int[] want = {1, 3, 2, 31, 13, 27, 0, 2, 2, 8, 0, 0, 0, 0, 16, 7, 40, 4000, 40, 1024, 1, 0, 9, 1, 2};
        for (int w = 0; w < 25; w++) {
            due("count(" + w + ")", x.count(w), want[w]);
        }
        due("count(25)", x.count(25), -1);
        due("count(-1)", x.count(-1), -1);
        x.terms(0, 1);
        x.burst(2, 1, 1);
        due("count(6)", x.count(6), 1);
        x.mask(-1);
        x.free(2);
        x.free(2);
        x.poll(1);
        for (int i = 3; i < 25; i++) {
            x.flow(i, 1, 2, 3, 0);
        }
        due("count(10)", x.count(10), 1);
        due("count(11)", x.count(11), 2);
        due("count(12)", x.count(12), 1);
        due("count(13)", x.count(13), 1);
        due("count(9)", x.count(9), 8);
    }

    private static void states() {
        RxQueues x = new RxQueues();
        due("status: ahead of any", x.status(), 0);
        int[] refusals = new int[18];
        for (int call = 0; call < 18; call++) {
            refusals[call] = wrong(x, call);
            due("status: call " + call, x.status(), refusals[call]);
            if (call != 4 && call != 15) {
                CHECK.due("status: refused " + call, refusals[call] < 0, true);
            }
            x.hash(-1, 0, 0, 0, 0);
            x.of(99, 99);
            x.would(0, 0);
            due("status: questions leave it", x.status(), refusals[call]);
            x.balance();
            due("status: 0 then", x.status(), 0);
        }
        x.flow(0, 0, 0, 0, 0);
        x.steer(0, 9);
        due("status: -1", x.status(), -1);
        x.undo();
        due("status: 0 by undo()", x.status(), 0);
        x.steer(0, 9);
        x.image(1);
        due("status: 0 by image()", x.status(), 0);
        x.steer(0, 9);
        x.back(1);
        due("status: 0 by back()", x.status(), 0);
    }

    /** A call that has to be refused (balance() and undo() can't be here): what it should be told as. */
    private static int wrong(RxQueues x, int call) {
        switch (call) {
            case 0: return x.key(0, 0, -1);
            case 1: return x.mask(32);
            case 2: return x.flow(0, 0, 0, 0, 2);
            case 3: return x.table(16, 0);
            case 4: x.balance(); return 0;
            case 5: return x.reads(0, 0);
            case 6: return x.retire(4);
            case 7: return x.steer(0, 0);
            case 8: return x.free(0);
            case 9: return x.terms(0, 0);
            case 10: return x.packet(0, 1, false);
            case 11: return x.burst(0, 0, 1);
            case 12: return x.gap(0, 1);
            case 13: return x.tick(0);
            case 14: return x.poll(0);
            case 15: x.undo(); return 0;
            case 16: return x.image(2);
            default: return x.back(0);
        }
    }
}
