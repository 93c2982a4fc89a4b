/** Promises 38 to 41: what ticks would bring, on paper. */
public final class PaperTest {
    private static final Check CHECK = new Check();

    public static void main(String[] args) {
        would();
        wouldFollow();
        drain();
        nextCall();
        joined();
        onPaper();
        CHECK.finish();
    }

    private static void due(String call, long got, long want) {
        CHECK.due(call, got, want);
    }

    /** Flows 0, 1, 2 of entries 0, 1, 2. */
    private static RxQueues withFlows() {
        RxQueues x = new RxQueues();
        x.key(1, 0, 0);
        x.flow(0, 0, 0, 0, 0);
        x.flow(128, 0, 0, 0, 0);
        x.flow(64, 0, 0, 0, 0);
        return x;
    }

    private static void would() {
        RxQueues x = withFlows();
        x.terms(0, 32);
        for (int i = 0; i < 20; i++) {
            x.packet(0, 10, i == 3);
        }
        x.packet(1, 10, false);
        x.tick(1);
        x.steer(2, 3);
        x.packet(1, 10, false);
        due("would: 1, packets", x.would(1, 0), 6);
        due("would: 1, segments", x.would(1, 1), 0);
        due("would: 3, packets", x.would(3, 0), 4);
        due("would: 3, segments", x.would(3, 1), 1);
        due("would: 3, calls", x.would(3, 2), 1);
        due("would: 7, packets", x.would(7, 0), 4);
        due("would: 8, packets", x.would(8, 0), 0);
        due("would: 8, segments", x.would(8, 1), 2);
        due("would: 8, calls", x.would(8, 2), 2);
        due("would: 40, rules", x.would(40, 3), 1);
        due("would: 41, rules", x.would(41, 3), 0);
        due("would: 100, calls", x.would(100, 2), 2);
        due("would: 0", x.would(0, 0), -1);
        due("would: 101", x.would(101, 0), -1);
        due("would: what 4", x.would(1, 4), -1);
        due("would: what -1", x.would(1, -1), -1);
        due("would: status()", x.status(), 0);
        due("would: and so it is", x.tick(8), 2);
    }

    private static void wouldFollow() {
        RxQueues x = withFlows();
        x.terms(6, 1);
        x.reads(0, 3);
        x.packet(0, 10, false);
        due("would: no rule yet", x.would(3, 3), 0);
        due("would: a rule that follows", x.would(4, 3), 1);
        due("would: until it is old", x.would(44, 3), 1);
        due("would: and then", x.would(45, 3), 0);
        due("would: none stands", x.count(2), 0);
        due("would: none followed", x.count(23), 0);
    }

    private static void drain() {
        RxQueues x = withFlows();
        due("drain: empty", x.drain(), 0);
        x.packet(0, 10, false);
        due("drain: by DELAY", x.drain(), 4);
        x.tick(1);
        due("drain: a tick later", x.drain(), 3);
        x.packet(1, 10, false);
        due("drain: the later one", x.drain(), 4);
        x.terms(7, 200);
        due("drain: slow", x.drain(), 1);
        x.terms(7, 0);
        x.terms(0, 32);
        x.burst(0, 20, 10);
        x.burst(0, 20, 10);
        x.burst(0, 20, 10);
        due("drain: in two batches", x.drain(), 9);
        due("drain: on paper", x.count(4), 62);
    }

    private static void nextCall() {
        RxQueues x = withFlows();
        due("nextCall: empty", x.nextCall(0), -1);
        due("nextCall: -1", x.nextCall(-1), -1);
        due("nextCall: 4", x.nextCall(4), -1);
        x.packet(0, 10, false);
        due("nextCall: by DELAY", x.nextCall(0), 4);
        due("nextCall: another", x.nextCall(1), -1);
        x.tick(3);
        due("nextCall: 1", x.nextCall(0), 1);
        x.packet(1, 10, false);
        due("nextCall: 4", x.nextCall(1), 4);
        x.terms(1, 1);
        due("nextCall: many", x.nextCall(1), 1);
        x.terms(1, 8);
        x.burst(1, 20, 10);
        x.terms(7, 8);
        // 8 came to queue 1: PACE 16, 14, ..; 8 are MANY at once
        due("nextCall: 8 wait", x.nextCall(1), 1);
        x.terms(1, 20);
        due("nextCall: not slow until then", x.nextCall(1), 4);
        x.terms(7, 15);
        due("nextCall: PACE 16, then 14", x.nextCall(1), 2);
        x.terms(7, 17);
        due("nextCall: PACE 16", x.nextCall(1), 1);
    }

    private static void joined() {
        RxQueues x = withFlows();
        due("joined: empty", x.joined(0, 0), 0);
        due("joined: -1", x.joined(-1, 0), -1);
        due("joined: 4", x.joined(4, 0), -1);
        due("joined: what 3", x.joined(0, 3), -1);
        due("joined: what -1", x.joined(0, -1), -1);
        x.terms(0, 32);
        x.terms(3, 30);
        for (int i = 0; i < 20; i++) {
            x.packet(0, 10, false);
        }
        // 16 are 5 of three and one of one, 4 are one of three and one of one
        due("joined: LONGEST 30", x.joined(0, 0), 8);
        due("joined: LONGEST 9,999", x.joined(0, 1), 2);
        due("joined: LONGEST 1", x.joined(0, 2), 20);
        x.steer(1, 0);
        x.packet(1, 10, true);
        x.packet(1, 10, false);
        due("joined: PRESSED", x.joined(0, 1), 4);
        due("joined: TERM stays", x.count(17), 30);
        due("joined: nothing taken", x.queue(0, 0), 22);
        due("joined: nothing given", x.given(0), 0);
    }

    private static void onPaper() {
        RxQueues x = withFlows();
        x.terms(6, 1);
        x.reads(0, 2);
        x.burst(0, 20, 100);
        long before = Look.atAll(x);
        x.would(100, 0);
        x.drain();
        x.nextCall(0);
        x.joined(0, 2);
        x.load(2);
        x.spread(0);
        x.aim(0, 3);
        due("on paper: nothing changes", Look.atAll(x), before);
    }
}
