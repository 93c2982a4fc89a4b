import java.util.Random;

/** Random runs of calls, put to the program and to the model, with all that can be asked compared. */
public final class ModelTest {
    private final Check check = new Check();
    private final RxQueues x = new RxQueues();
    private final Model m = new Model();
    private final Random random;
    private final String run;
    private final int style;

    private ModelTest(int seed) {
        random = new Random(seed);
        style = seed % 6;
        run = "run " + seed + ": ";
    }

    public static void main(String[] args) {
        Check all = new Check();
        int runs = args.length > 0 ? Integer.parseInt(args[0]) : 60;
        for (int seed = 0; seed < runs && all.wrong() < 5; seed++) {
            ModelTest one = new ModelTest(seed);
            one.play();
            all.due("wrong answers in run " + seed, one.check.wrong(), 0);
        }
        all.finish();
    }

    private int pick(int least, int most) {
        return least + random.nextInt(most - least + 1);
    }

    /** Mostly a number that can be; now and then one just outside, or far. */
    private int near(int least, int most) {
        int dice = random.nextInt(60);
        if (dice == 0) {
            return least - 1;
        }
        if (dice == 1) {
            return most + 1;
        }
        if (dice == 2) {
            return random.nextBoolean() ? Integer.MAX_VALUE : Integer.MIN_VALUE;
        }
        if (dice < 6) {
            return random.nextBoolean() ? least : most;
        }
        return pick(least, most);
    }

    private int anyFlow() {
        return near(0, Math.max(0, m.count(1) - 1));
    }

    private void due(String call, long got, long want) {
        check.due(run + call, got, want);
    }

    // acts and questions of a run stay around the 512 calls that the document promises; the questions about
    // everything at its end go beyond, which the document leaves free, but they change nothing
    private void play() {
        int first = style == 0 ? 3 : style == 1 ? 12 : style == 3 ? 40 : 7;
        putKey();
        for (int i = 0; i < first; i++) {
            putFlow();
        }
        for (int i = 0; i < 160 && check.wrong() == 0; i++) {
            act(random.nextInt(100));
            due("status()", x.status(), m.status());
            ask();
        }
        askAll();
    }

    private void putKey() {
        int a = random.nextInt(4) == 0 ? 1 << pick(0, 31) : random.nextInt();
        int b = random.nextInt();
        int c = near(0, 255);
        if (random.nextInt(3) == 0) {
            int one = random.nextInt(256);
            a = one * 0x01010101;
            b = random.nextBoolean() ? a : a ^ 1 << pick(0, 31);
            c = one;
        }
        due("key(" + a + ", " + b + ", " + c + ")", x.key(a, b, c), m.key(a, b, c));
    }

    private void putFlow() {
        int most = random.nextInt(3) == 0 ? 255 : 1;
        int f = near(0, most);
        int t = near(0, most);
        int p = near(0, 255);
        int o = near(0, most);
        int s = near(0, 1);
        due("flow(" + f + ", " + t + ", " + p + ", " + o + ", " + s + ")", x.flow(f, t, p, o, s), m.flow(f, t, p, o, s));
    }

    private void act(int dice) {
        int f = anyFlow();
        int q = near(0, 3);
        if (dice < 22) {
            int size = random.nextInt(3) == 0 ? near(1, 60) : near(1, 1500);
            boolean pressed = random.nextInt(5) == 0;
            due("packet(" + f + ", " + size + ", " + pressed + ")", x.packet(f, size, pressed), m.packet(f, size, pressed));
        } else if (dice < 40) {
            int n = near(1, 20);
            int size = near(1, 1500);
            due("burst(" + f + ", " + n + ", " + size + ")", x.burst(f, n, size), m.burst(f, n, size));
        } else if (dice < 56) {
            int n = random.nextInt(5) == 0 ? near(1, 100) : pick(1, style == 2 ? 2 : 5);
            due("tick(" + n + ")", x.tick(n), m.tick(n));
        } else if (dice < 61) {
            due("poll(" + q + ")", x.poll(q), m.poll(q));
        } else if (dice < 67) {
            due("steer(" + f + ", " + q + ")", x.steer(f, q), m.steer(f, q));
        } else if (dice < 71) {
            int r = near(-1, 3);
            due("reads(" + f + ", " + r + ")", x.reads(f, r), m.reads(f, r));
        } else if (dice < 74) {
            int n = near(1, 9999);
            due("gap(" + f + ", " + n + ")", x.gap(f, n), m.gap(f, n));
        } else if (dice < 80) {
            putTerm();
        } else {
            rarer(dice, f, q);
        }
    }

    private void putTerm() {
        int[][] bounds = {{1, 32}, {1, 32}, {1, 999}, {1, 9999}, {0, 64}, {64, 4096}, {0, 1}, {0, 256}, {1, 32}};
        int what = near(0, 8);
        int[] b = what >= 0 && what <= 8 ? bounds[what] : bounds[0];
        int v = what == 2 && random.nextBoolean() ? pick(1, 9) : near(b[0], b[1]);
        if (what == 1 && random.nextBoolean()) {
            v = pick(1, 3);
        }
        if (what == 7 && random.nextInt(3) > 0) {
            v = pick(0, 12);
        }
        due("terms(" + what + ", " + v + ")", x.terms(what, v), m.terms(what, v));
    }

    private void rarer(int dice, int f, int q) {
        int k = near(0, 1);
        int v = near(0, 31);
        int e = near(0, 15);
        switch (dice) {
            case 80: case 81: putFlow(); break;
            case 82: putKey(); break;
            case 83: due("mask(" + v + ")", x.mask(v), m.mask(v)); break;
            case 84: case 85: due("table(" + e + ", " + q + ")", x.table(e, q), m.table(e, q)); break;
            case 86: due("balance()", x.balance(), m.balance()); break;
            case 87: due("retire(" + q + ")", x.retire(q), m.retire(q)); break;
            case 88: case 89: due("free(" + f + ")", x.free(f), m.free(f)); break;
            case 90: case 91: due("image(" + k + ")", x.image(k), m.image(k)); break;
            case 92: due("back(" + k + ")", x.back(k), m.back(k)); break;
            case 93: case 94:
                for (int i = pick(1, 9); i > 0; i--) {
                    due("undo()", x.undo(), m.undo());
                }
                break;
            default: due("undo()", x.undo(), m.undo()); break;
        }
    }

    private void ask() {
        int f = anyFlow();
        int q = near(0, 3);
        int n = near(1, 100);
        int what = near(0, 4);
        switch (random.nextInt(14)) {
            case 0: due("would(" + n + ", " + what + ")", x.would(n, what), m.would(n, what)); break;
            case 1: due("drain()", x.drain(), m.drain()); break;
            case 2: due("nextCall(" + q + ")", x.nextCall(q), m.nextCall(q)); break;
            case 3: due("joined(" + q + ", " + what + ")", x.joined(q, what), m.joined(q, what)); break;
            case 4: due("missing(" + f + ", 0)", x.missing(f, 0), m.missing(f, 0)); break;
            case 5: due("missing(" + f + ", 1)", x.missing(f, 1), m.missing(f, 1)); break;
            case 6: due("load(" + what + ")", x.load(what), m.load(what)); break;
            case 7: due("aim(" + f + ", " + n % 18 + ")", x.aim(f, n % 18), m.aim(f, n % 18)); break;
            case 8: due("ratio(" + what + ")", x.ratio(what), m.ratio(what)); break;
            case 9: due("alike()", x.alike(), m.alike()); break;
            case 10: due("spread(" + what + ")", x.spread(what), m.spread(what)); break;
            default:
                int w = near(0, 19);
                due("of(" + f + ", " + w + ")", x.of(f, w), m.of(f, w));
                break;
        }
    }

    private void askAll() {
        for (int f = -1; f <= m.count(1); f++) {
            due("hashOf(" + f + ")", x.hashOf(f), m.hashOf(f));
            for (int w = -1; w <= 20; w++) {
                due("of(" + f + ", " + w + ")", x.of(f, w), m.of(f, w));
                due("missing(" + f + ", " + w + ")", x.missing(f, w), m.missing(f, w));
                due("aim(" + f + ", " + w + ")", x.aim(f, w), m.aim(f, w));
            }
        }
        for (int e = -1; e <= 16; e++) {
            for (int w = -1; w <= 3; w++) {
                due("entry(" + e + ", " + w + ")", x.entry(e, w), m.entry(e, w));
            }
        }
        for (int q = -1; q <= 4; q++) {
            for (int w = -1; w <= 10; w++) {
                due("queue(" + q + ", " + w + ")", x.queue(q, w), m.queue(q, w));
                for (int i = -1; i <= 33; i++) {
                    due("waits(" + q + ", " + i + ", " + w + ")", x.waits(q, i, w), m.waits(q, i, w));
                }
                due("joined(" + q + ", " + w + ")", x.joined(q, w), m.joined(q, w));
            }
            due("nextCall(" + q + ")", x.nextCall(q), m.nextCall(q));
        }
        for (int w = -1; w <= 25; w++) {
            due("count(" + w + ")", x.count(w), m.count(w));
            due("given(" + w + ")", x.given(w), m.given(w));
            due("ratio(" + w + ")", x.ratio(w), m.ratio(w));
            due("load(" + w + ")", x.load(w), m.load(w));
            for (int ago = -1; ago <= 12; ago++) {
                due("segment(" + ago + ", " + w + ")", x.segment(ago, w), m.segment(ago, w));
            }
        }
        for (int i = -1; i <= 41; i++) {
            due("window(" + i + ")", x.window(i), m.window(i));
        }
        for (int w = -1; w <= 2; w++) {
            due("spread(" + w + ")", x.spread(w), m.spread(w));
        }
        due("isBothWays()", x.isBothWays() ? 1 : 0, m.isBothWays() ? 1 : 0);
        due("reach()", x.reach(), m.reach());
        due("alike()", x.alike(), m.alike());
        due("drain()", x.drain(), m.drain());
    }
}
