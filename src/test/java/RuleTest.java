/** Promises 7, 9 and 10: readers, rules that come, go for others, grow old, are freed, and follow readers. */
public final class RuleTest {
    private static final Check CHECK = new Check();

    public static void main(String[] args) {
        reads();
        steer();
        leastUsed();
        free();
        growOld();
        follow();
        followOrNot();
        followInTicks();
        followWithoutRoom();
        CHECK.finish();
    }

    private static void due(String call, long got, long want) {
        CHECK.due(call, got, want);
    }

    /** All flows hit entry 0, so without rules all go to queue 0. */
    private static RxQueues withFlows(int n) {
        RxQueues x = new RxQueues();
        for (int i = 0; i < n; i++) {
            x.flow(i, 0, 0, 0, 0);
        }
        return x;
    }

    private static void reads() {
        RxQueues x = withFlows(1);
        due("reads: first", x.reads(0, 3), -1);
        due("reads: status()", x.status(), 0);
        due("reads: was 3", x.reads(0, 0), 3);
        due("reads: of(0, 17)", x.of(0, 17), 0);
        due("reads: none", x.reads(0, -1), 0);
        due("reads: of(0, 17) none", x.of(0, 17), -1);
        due("reads: 4", x.reads(0, 4), -1);
        due("reads: status() of 4", x.status(), -1);
        due("reads: -2", x.reads(0, -2), -1);
        due("reads: no flow", x.reads(1, 0), -2);
        due("reads: no flow -1", x.reads(-1, 0), -2);
        due("reads: -1 ahead of -2", x.reads(1, 4), -1);
        due("reads: its wish is as it was", x.of(0, 6), 0);
    }

    private static void steer() {
        RxQueues x = withFlows(2);
        due("steer: first", x.steer(0, 2), -1);
        due("steer: status()", x.status(), 0);
        due("steer: of(0, 6)", x.of(0, 6), 2);
        due("steer: of(0, 13)", x.of(0, 13), 2);
        due("steer: of(1, 6)", x.of(1, 6), 0);
        due("steer: queue(2, 6)", x.queue(2, 6), 1);
        x.tick(3);
        due("steer: in place of its own", x.steer(0, 3), -1);
        due("steer: of(0, 13) again", x.of(0, 13), 3);
        due("steer: USED is TIME", x.of(0, 14), 3);
        due("steer: count(2)", x.count(2), 1);
        due("steer: queue 4", x.steer(0, 4), -1);
        due("steer: status() of 4", x.status(), -1);
        due("steer: NONE is no queue", x.steer(0, -1), -1);
        due("steer: status() of NONE", x.status(), -1);
        due("steer: no flow", x.steer(2, 0), -2);
        due("steer: no flow -1", x.steer(-1, 0), -2);
        due("steer: -1 ahead of -2", x.steer(2, 4), -1);
        due("steer: still", x.of(0, 13), 3);
    }

    private static void leastUsed() {
        RxQueues x = withFlows(9);
        for (int f = 5; f >= 0; f--) {
            due("six: " + f, x.steer(f, 1), -1);
        }
        due("six: in place, with room for none", x.steer(5, 2), -1);
        due("six: count(2)", x.count(2), 6);
        due("six: of like ones the least flow", x.steer(6, 1), 0);
        x.tick(1);
        x.packet(1, 10, false);
        due("six: 1 was used", x.steer(7, 1), 2);
        x.steer(3, 1);
        due("six: 3 is younger now", x.steer(8, 1), 4);
        due("six: then 5", x.steer(0, 1), 5);
        due("six: then 6", x.steer(2, 1), 6);
        due("six: all of TIME 1", x.steer(4, 1), 0);
        due("six: count(2) again", x.count(2), 6);
        due("six: of(0, 14)", x.of(0, 14), -1);
    }

    private static void free() {
        RxQueues x = withFlows(2);
        due("free: no rule", x.free(0), -2);
        due("free: status()", x.status(), -2);
        x.steer(0, 3);
        due("free: its queue", x.free(0), 3);
        due("free: of(0, 13)", x.of(0, 13), -1);
        due("free: of(0, 14)", x.of(0, 14), -1);
        due("free: again", x.free(0), -2);
        due("free: no flow", x.free(2), -2);
        due("free: no flow -1", x.free(-1), -2);
        due("free: no flow 24", x.free(24), -2);
        due("free: count(11)", x.count(11), 5);
        due("free: count(2)", x.count(2), 0);
    }

    private static void growOld() {
        RxQueues x = withFlows(2);
        x.terms(2, 5);
        x.steer(0, 1);
        x.steer(1, 1);
        x.tick(3);
        x.packet(1, 10, false);
        x.tick(2);
        due("old: USED and OLD are TIME", x.count(2), 2);
        x.tick(1);
        due("old: below TIME", x.of(0, 13), -1);
        due("old: the used one stays", x.of(1, 13), 1);
        x.tick(2);
        due("old: still", x.of(1, 13), 1);
        x.tick(1);
        due("old: no more", x.of(1, 13), -1);
        x.steer(0, 1);
        x.terms(2, 1);
        x.tick(1);
        due("old: OLD 1", x.count(2), 1);
        x.tick(1);
        due("old: OLD 1 by then", x.count(2), 0);
    }

    private static void follow() {
        RxQueues x = withFlows(1);
        x.reads(0, 3);
        x.packet(0, 10, false);
        x.poll(0);
        due("follow: not with FOLLOWS 0", x.count(2), 0);
        x.terms(6, 1);
        x.tick(2);
        x.packet(0, 10, false);
        x.packet(0, 10, true);
        x.packet(0, 10, false);
        due("follow: nothing given yet", x.count(23), 0);
        x.poll(0);
        due("follow: once, then it has the rule", x.count(23), 1);
        due("follow: rule", x.of(0, 13), 3);
        due("follow: USED", x.of(0, 14), 2);
        due("follow: next packet", x.packet(0, 10, false), 3);
        x.poll(3);
        due("follow: given by its reader's queue", x.count(23), 1);
    }

    private static void followOrNot() {
        RxQueues x = withFlows(2);
        x.terms(6, 1);
        x.reads(0, 0);
        x.packet(0, 10, false);
        x.packet(1, 10, false);
        x.poll(0);
        due("follow: reader there, or none", x.count(2), 0);
        x.steer(0, 2);
        x.packet(0, 10, false);
        x.tick(1);
        x.steer(0, 0);
        x.tick(1);
        x.poll(2);
        due("follow: it has a rule to that", x.count(23), 0);
        due("follow: USED as it was", x.of(0, 14), 1);
        x.steer(0, 2);
        x.packet(0, 10, false);
        x.poll(2);
        due("follow: in place of another rule", x.of(0, 13), 0);
        due("follow: count(23)", x.count(23), 1);
        due("follow: one rule", x.count(2), 1);
        x.steer(0, 1);
        x.packet(0, 10, false);
        x.free(0);
        x.reads(0, 1);
        x.poll(1);
        due("follow: out of its reader's queue", x.count(2), 0);
    }

    private static void followInTicks() {
        RxQueues x = withFlows(1);
        x.terms(6, 1);
        x.terms(2, 1);
        x.reads(0, 1);
        x.packet(0, 10, false);
        due("follow: by a tick", x.tick(4), 1);
        due("follow: USED is the TIME of that tick", x.of(0, 14), 4);
        x.tick(1);
        due("follow: OLD 1", x.of(0, 13), 1);
        x.tick(1);
        due("follow: too old", x.of(0, 13), -1);
    }

    private static void followWithoutRoom() {
        RxQueues x = withFlows(8);
        x.terms(6, 1);
        for (int f = 0; f < 6; f++) {
            x.steer(f, 1);
        }
        x.reads(6, 2);
        x.reads(7, 3);
        x.tick(1);
        x.packet(7, 10, false);
        x.packet(6, 10, false);
        x.poll(0);
        due("follow: one goes ahead", x.of(0, 13), -1);
        due("follow: another goes", x.of(1, 13), -1);
        due("follow: 6 has one", x.of(6, 13), 2);
        due("follow: 7 has one", x.of(7, 13), 3);
        due("follow: six", x.count(2), 6);
        due("follow: two", x.count(23), 2);
    }
}
