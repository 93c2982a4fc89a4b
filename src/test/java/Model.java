import java.math.BigInteger;
import java.util.ArrayDeque;
import java.util.ArrayList;
import java.util.Comparator;
import java.util.Deque;
import java.util.List;
import java.util.TreeMap;
import java.util.TreeSet;

/**
 * The document once more, held in another way (objects, lists, big numbers) and without any care for speed:
 * tests put random calls to it and to RxQueues and compare. It keeps a log of every byte of a flow, where the
 * program keeps sums.
 */
final class Model {
    static final int NONE = -1;

    enum Fate { WAITS, TAKEN, LOST, GAP }

    static final class Piece {
        Flow flow;
        int place;
        int size;
        boolean pressed;
        Fate fate;
        boolean marked;
        boolean stuck;
    }

    static final class Flow {
        int number;
        int[] fields;
        int reader = NONE;
        int rule = NONE;
        int used = NONE;
        List<Piece> log = new ArrayList<>();
        List<Segment> given = new ArrayList<>();

        int next() {
            int all = 0;
            for (Piece p : log) {
                all += p.size;
            }
            return all;
        }

        int number(Fate... fates) {
            int all = 0;
            for (Piece p : log) {
                for (Fate f : fates) {
                    all += p.fate == f ? 1 : 0;
                }
            }
            return all;
        }
    }

    static final class Segment {
        Flow flow;
        int place;
        int size;
        int packets;
        int apart;
        int pages;
    }

    static final class Queue {
        List<Piece> waiting = new ArrayList<>();
        int delay = 4;
        int since = NONE;
        int calls;
        int taken;
        int lost;
        int pace;
        int fresh;
    }

    static final class World {
        BigInteger key = BigInteger.ZERO;
        int mask = 31;
        int time;
        int followed;
        int[] terms = {16, 8, 40, 4000, 40, 1024, 0, 0, 12};
        int[] table = new int[16];
        int[] hits = new int[16];
        List<Flow> flows = new ArrayList<>();
        Queue[] queues = {new Queue(), new Queue(), new Queue(), new Queue()};
        List<Segment> given = new ArrayList<>();

        World() {
            for (int e = 0; e < 16; e++) {
                table[e] = e % 4;
            }
        }

        World copy() {
            World w = new World();
            w.key = key;
            w.mask = mask;
            w.time = time;
            w.followed = followed;
            w.terms = terms.clone();
            w.table = table.clone();
            w.hits = hits.clone();
            TreeMap<String, Piece> pieces = new TreeMap<>();
            for (Flow f : flows) {
                Flow g = new Flow();
                g.number = f.number;
                g.fields = f.fields.clone();
                g.reader = f.reader;
                g.rule = f.rule;
                g.used = f.used;
                for (Piece p : f.log) {
                    Piece c = new Piece();
                    c.flow = g;
                    c.place = p.place;
                    c.size = p.size;
                    c.pressed = p.pressed;
                    c.fate = p.fate;
                    c.marked = p.marked;
                    c.stuck = p.stuck;
                    g.log.add(c);
                    pieces.put(g.number + "/" + c.place, c);
                }
                w.flows.add(g);
            }
            for (Segment s : given) {
                Segment t = new Segment();
                t.flow = w.flows.get(s.flow.number);
                t.place = s.place;
                t.size = s.size;
                t.packets = s.packets;
                t.apart = s.apart;
                t.pages = s.pages;
                w.given.add(t);
                t.flow.given.add(t);
            }
            for (int q = 0; q < 4; q++) {
                Queue a = queues[q];
                Queue b = w.queues[q];
                b.delay = a.delay;
                b.since = a.since;
                b.calls = a.calls;
                b.taken = a.taken;
                b.lost = a.lost;
                b.pace = a.pace;
                b.fresh = a.fresh;
                for (Piece p : a.waiting) {
                    b.waiting.add(pieces.get(p.flow.number + "/" + p.place));
                }
            }
            return w;
        }

        int window(int i) {
            return key.shiftRight(72 - 32 - i).intValue();
        }

        int hash(int... fields) {
            StringBuilder bits = new StringBuilder();
            for (int f = 0; f < 5; f++) {
                int v = (mask >> f & 1) == 1 ? fields[f] : 0;
                bits.append(String.format("%8s", Integer.toBinaryString(v)).replace(' ', '0'));
            }
            int h = 0;
            for (int i = 0; i < 40; i++) {
                if (bits.charAt(i) == '1') {
                    h ^= window(i);
                }
            }
            return h;
        }

        int entryOf(Flow f) {
            return hash(f.fields) & 15;
        }

        int wish(Flow f) {
            return f.rule != NONE ? f.rule : table[entryOf(f)];
        }

        int where(Flow f) {
            for (int q = 0; q < 4; q++) {
                for (Piece p : queues[q].waiting) {
                    if (p.flow == f) {
                        return q;
                    }
                }
            }
            return NONE;
        }

        int rules() {
            int all = 0;
            for (Flow f : flows) {
                all += f.rule != NONE ? 1 : 0;
            }
            return all;
        }

        int waiting() {
            int all = 0;
            for (Queue q : queues) {
                all += q.waiting.size();
            }
            return all;
        }

        int calls() {
            int all = 0;
            for (Queue q : queues) {
                all += q.calls;
            }
            return all;
        }

        int rule(Flow f, int queue) {
            int gone = NONE;
            if (f.rule == NONE && rules() == 6) {
                List<Flow> ruled = new ArrayList<>();
                for (Flow g : flows) {
                    if (g.rule != NONE) {
                        ruled.add(g);
                    }
                }
                ruled.sort(Comparator.comparingInt((Flow g) -> g.used).thenComparingInt(g -> g.number));
                gone = ruled.get(0).number;
                ruled.get(0).rule = NONE;
                ruled.get(0).used = NONE;
            }
            f.rule = queue;
            f.used = time;
            return gone;
        }

        int come(Flow f, int size, boolean pressed) {
            Piece p = new Piece();
            p.flow = f;
            p.place = f.next();
            p.size = size;
            p.pressed = pressed;
            int q = where(f);
            if (q == NONE) {
                q = wish(f);
            }
            p.stuck = q != wish(f);
            if (f.rule != NONE) {
                f.used = time;
            }
            hits[entryOf(f)]++;
            f.log.add(p);
            Queue queue = queues[q];
            if (queue.waiting.size() >= terms[0]) {
                p.fate = Fate.LOST;
                queue.lost++;
                return 4;
            }
            p.fate = Fate.WAITS;
            if (queue.waiting.isEmpty()) {
                queue.since = time;
            }
            queue.waiting.add(p);
            queue.fresh++;
            p.marked = queue.waiting.size() >= terms[8];
            return q;
        }

        int call(int q, boolean learns) {
            Queue queue = queues[q];
            queue.calls++;
            List<Piece> batch = new ArrayList<>();
            while (batch.size() < 16 && !queue.waiting.isEmpty()) {
                batch.add(queue.waiting.remove(0));
            }
            queue.taken += batch.size();
            TreeMap<Integer, Segment> open = new TreeMap<>();
            for (Piece p : batch) {
                p.fate = Fate.TAKEN;
                Segment s = open.get(p.flow.number);
                if (s != null && s.place + s.size == p.place && s.size + p.size <= terms[3]) {
                    s.size += p.size;
                    s.packets++;
                } else {
                    if (s != null) {
                        give(open.remove(p.flow.number), q);
                    }
                    s = new Segment();
                    s.flow = p.flow;
                    s.place = p.place;
                    s.size = p.size;
                    s.packets = 1;
                    open.put(p.flow.number, s);
                }
                if (p.pressed) {
                    give(open.remove(p.flow.number), q);
                }
            }
            for (Segment s : open.values()) {
                give(s, q);
            }
            if (learns && batch.size() >= terms[1]) {
                queue.delay = Math.min(16, queue.delay * 2);
            } else if (learns && batch.size() <= 2) {
                queue.delay = Math.max(1, queue.delay / 2);
            }
            queue.since = queue.waiting.isEmpty() ? NONE : time;
            return batch.size();
        }

        void give(Segment s, int q) {
            s.apart = Math.min(terms[4], s.size);
            for (int left = s.size - s.apart; left > 0; left -= terms[5]) {
                s.pages++;
            }
            given.add(s);
            s.flow.given.add(s);
            int reader = s.flow.reader;
            if (terms[6] == 1 && reader != NONE && reader != q && s.flow.rule != reader) {
                rule(s.flow, reader);
                followed++;
            }
        }

        void tick() {
            time++;
            for (Flow f : flows) {
                if (f.rule != NONE && f.used + terms[2] < time) {
                    f.rule = NONE;
                    f.used = NONE;
                }
            }
            for (int q = 0; q < 4; q++) {
                Queue queue = queues[q];
                queue.pace += (16 * queue.fresh - queue.pace) / 8;
                queue.fresh = 0;
                int n = queue.waiting.size();
                boolean many = n >= terms[1];
                boolean slow = queue.pace < terms[7];
                boolean late = time - queue.since >= queue.delay;
                if (n > 0 && (many || slow || late)) {
                    call(q, true);
                }
            }
        }

        List<Integer> entriesByHits() {
            List<Integer> all = new ArrayList<>();
            for (int e = 0; e < 16; e++) {
                all.add(e);
            }
            all.sort(Comparator.comparingInt((Integer e) -> -hits[e]).thenComparingInt(e -> e));
            return all;
        }

        int hitsOf(int queue) {
            int all = 0;
            for (int e = 0; e < 16; e++) {
                all += table[e] == queue ? hits[e] : 0;
            }
            return all;
        }

        int balance() {
            int[] was = table.clone();
            java.util.Arrays.fill(table, NONE);
            for (int e : entriesByHits()) {
                int best = 0;
                for (int q = 1; q < 4; q++) {
                    best = hitsOf(q) < hitsOf(best) ? q : best;
                }
                table[e] = best;
            }
            int moved = 0;
            for (int e = 0; e < 16; e++) {
                moved += table[e] != was[e] ? 1 : 0;
            }
            return moved;
        }

        int retire(int queue) {
            for (Flow f : flows) {
                if (f.rule == queue) {
                    f.rule = NONE;
                    f.used = NONE;
                }
            }
            int had = 0;
            for (int e : entriesByHits()) {
                if (table[e] != queue) {
                    continue;
                }
                had++;
                int best = NONE;
                for (int q = 0; q < 4; q++) {
                    if (q != queue && (best == NONE || hitsOf(q) < hitsOf(best))) {
                        best = q;
                    }
                }
                table[e] = best;
            }
            return had;
        }
    }

    World world = new World();
    private final Deque<World> before = new ArrayDeque<>();
    private final Deque<Integer> acts = new ArrayDeque<>();
    private final World[] images = new World[2];
    private final int[] refused = new int[6];
    private int status;

    private int refuse(int why) {
        status = why;
        refused[-why]++;
        return why;
    }

    private void act(int number) {
        status = 0;
        before.push(world);
        acts.push(number);
        if (acts.size() > 8) {
            before.removeLast();
            acts.removeLast();
        }
        world = world.copy();
    }

    private Flow flowOf(int flow) {
        return flow < 0 || flow >= world.flows.size() ? null : world.flows.get(flow);
    }

    private static boolean in(int v, int least, int most) {
        return v >= least && v <= most;
    }

    private static boolean fieldsCanBe(int from, int to, int port, int other, int sort) {
        return in(from, 0, 255) && in(to, 0, 255) && in(port, 0, 255) && in(other, 0, 255) && in(sort, 0, 1);
    }

    int key(int a, int b, int c) {
        if (!in(c, 0, 255)) {
            return refuse(-1);
        }
        act(0);
        world.key = keyOf(a, b, c);
        return 0;
    }

    private static BigInteger keyOf(int a, int b, int c) {
        BigInteger high = BigInteger.valueOf(a & 0xFFFFFFFFL).shiftLeft(40);
        return high.add(BigInteger.valueOf(b & 0xFFFFFFFFL).shiftLeft(8)).add(BigInteger.valueOf(c));
    }

    int mask(int v) {
        if (!in(v, 0, 31)) {
            return refuse(-1);
        }
        act(1);
        int was = world.mask;
        world.mask = v;
        return was;
    }

    int flow(int from, int to, int port, int other, int sort) {
        if (!fieldsCanBe(from, to, port, other, sort)) {
            return refuse(-1);
        }
        int known = find(from, to, port, other, sort);
        if (known != NONE) {
            status = 0;
            return known;
        }
        if (world.flows.size() == 24) {
            return refuse(-5);
        }
        act(2);
        Flow f = new Flow();
        f.number = world.flows.size();
        f.fields = new int[] {from, to, port, other, sort};
        world.flows.add(f);
        return f.number;
    }

    int table(int entry, int queue) {
        if (!in(entry, 0, 15) || !in(queue, 0, 3)) {
            return refuse(-1);
        }
        act(3);
        int was = world.table[entry];
        world.table[entry] = queue;
        return was;
    }

    int balance() {
        act(4);
        int moved = world.balance();
        world.hits = new int[16];
        return moved;
    }

    int reads(int flow, int queue) {
        if (!in(queue, -1, 3)) {
            return refuse(-1);
        }
        if (flowOf(flow) == null) {
            return refuse(-2);
        }
        act(13);
        int was = flowOf(flow).reader;
        flowOf(flow).reader = queue;
        return was;
    }

    int retire(int queue) {
        if (!in(queue, 0, 3)) {
            return refuse(-1);
        }
        act(14);
        return world.retire(queue);
    }

    int steer(int flow, int queue) {
        if (!in(queue, 0, 3)) {
            return refuse(-1);
        }
        if (flowOf(flow) == null) {
            return refuse(-2);
        }
        act(5);
        return world.rule(flowOf(flow), queue);
    }

    int free(int flow) {
        if (flowOf(flow) == null || flowOf(flow).rule == NONE) {
            return refuse(-2);
        }
        act(6);
        int was = flowOf(flow).rule;
        flowOf(flow).rule = NONE;
        flowOf(flow).used = NONE;
        return was;
    }

    int terms(int what, int v) {
        int[][] bounds = {{1, 32}, {1, 32}, {1, 999}, {1, 9999}, {0, 64}, {64, 4096}, {0, 1}, {0, 256}, {1, 32}};
        if (!in(what, 0, 8) || !in(v, bounds[what][0], bounds[what][1])) {
            return refuse(-1);
        }
        act(7);
        int was = world.terms[what];
        world.terms[what] = v;
        return was;
    }

    int packet(int flow, int size, boolean pressed) {
        if (!in(size, 1, 1500)) {
            return refuse(-1);
        }
        if (flowOf(flow) == null) {
            return refuse(-2);
        }
        act(8);
        return world.come(flowOf(flow), size, pressed);
    }

    int burst(int flow, int n, int size) {
        if (!in(n, 1, 20) || !in(size, 1, 1500)) {
            return refuse(-1);
        }
        if (flowOf(flow) == null) {
            return refuse(-2);
        }
        act(9);
        int kept = 0;
        for (int i = 0; i < n; i++) {
            Flow f = world.flows.get((flow + i) % world.flows.size());
            kept += world.come(f, size, false) == 4 ? 0 : 1;
        }
        return kept;
    }

    int gap(int flow, int n) {
        if (!in(n, 1, 9999)) {
            return refuse(-1);
        }
        if (flowOf(flow) == null) {
            return refuse(-2);
        }
        act(10);
        Piece p = new Piece();
        p.flow = flowOf(flow);
        p.place = p.flow.next();
        p.size = n;
        p.fate = Fate.GAP;
        p.flow.log.add(p);
        return p.flow.next();
    }

    int tick(int n) {
        if (!in(n, 1, 100)) {
            return refuse(-1);
        }
        if (world.time + n > 99999) {
            return refuse(-4);
        }
        act(11);
        int was = world.given.size();
        for (int i = 0; i < n; i++) {
            world.tick();
        }
        return world.given.size() - was;
    }

    int poll(int queue) {
        if (!in(queue, 0, 3)) {
            return refuse(-1);
        }
        if (world.queues[queue].waiting.isEmpty()) {
            return refuse(-4);
        }
        act(12);
        return world.call(queue, false);
    }

    int undo() {
        if (acts.isEmpty()) {
            return refuse(-4);
        }
        status = 0;
        world = before.pop();
        return acts.pop();
    }

    int image(int k) {
        if (!in(k, 0, 1)) {
            return refuse(-1);
        }
        status = 0;
        images[k] = world.copy();
        return world.time;
    }

    int back(int k) {
        if (!in(k, 0, 1)) {
            return refuse(-1);
        }
        if (images[k] == null) {
            return refuse(-4);
        }
        status = 0;
        world = images[k].copy();
        acts.clear();
        before.clear();
        return world.time;
    }

    int hash(int from, int to, int port, int other, int sort) {
        return fieldsCanBe(from, to, port, other, sort) ? world.hash(from, to, port, other, sort) : 0;
    }

    int hashOf(int flow) {
        return flowOf(flow) == null ? 0 : world.hash(flowOf(flow).fields);
    }

    int of(int flow, int what) {
        Flow f = flowOf(flow);
        if (f == null) {
            return NONE;
        }
        Segment last = f.given.isEmpty() ? null : f.given.get(f.given.size() - 1);
        switch (what) {
            case 0: case 1: case 2: case 3: case 4: return f.fields[what];
            case 5: return world.entryOf(f);
            case 6: return world.wish(f);
            case 7: return world.where(f);
            case 8: return f.number(Fate.WAITS);
            case 9: return f.next();
            case 10: return f.number(Fate.WAITS, Fate.TAKEN, Fate.LOST);
            case 11: return f.number(Fate.LOST);
            case 12: return (int) f.log.stream().filter(p -> p.stuck).count();
            case 13: return f.rule;
            case 14: return f.used;
            case 15: return last == null ? 0 : last.place + last.size;
            case 16: return f.given.size();
            case 17: return f.reader;
            case 18: return (int) f.log.stream().filter(p -> p.marked).count();
            case 19: return f.given.stream().mapToInt(s -> s.size).sum();
            default: return NONE;
        }
    }

    int find(int from, int to, int port, int other, int sort) {
        int[] fields = {from, to, port, other, sort};
        for (Flow f : world.flows) {
            if (java.util.Arrays.equals(f.fields, fields)) {
                return f.number;
            }
        }
        return NONE;
    }

    int missing(int flow, int what) {
        Flow f = flowOf(flow);
        if (f == null || !in(what, 0, 1)) {
            return NONE;
        }
        int all = 0;
        int widest = 0;
        int row = 0;
        for (Piece p : f.log) {
            boolean hole = p.fate == Fate.LOST || p.fate == Fate.GAP;
            all += hole ? p.size : 0;
            row = hole && p.place >= of(flow, 15) ? row + p.size : 0;
            widest = Math.max(widest, row);
        }
        return what == 0 ? all : widest;
    }

    int entry(int entry, int what) {
        if (!in(entry, 0, 15)) {
            return NONE;
        }
        switch (what) {
            case 0: return world.table[entry];
            case 1: return world.hits[entry];
            case 2: return world.flows.stream().filter(f -> world.entryOf(f) == entry).mapToInt(f -> 1 << f.number).sum();
            default: return NONE;
        }
    }

    int queue(int queue, int what) {
        if (!in(queue, 0, 3)) {
            return NONE;
        }
        Queue q = world.queues[queue];
        switch (what) {
            case 0: return q.waiting.size();
            case 1: return q.delay;
            case 2: return q.since;
            case 3: return q.calls;
            case 4: return q.taken;
            case 5: return q.lost;
            case 6: return world.flows.stream().filter(f -> world.wish(f) == queue).mapToInt(f -> 1 << f.number).sum();
            case 7: return q.pace;
            case 8: return q.fresh;
            case 9:
                int bits = 0;
                for (int e = 0; e < 16; e++) {
                    bits += world.table[e] == queue ? 1 << e : 0;
                }
                return bits;
            default: return NONE;
        }
    }

    int waits(int queue, int i, int what) {
        if (!in(queue, 0, 3) || !in(i, 0, world.queues[queue].waiting.size() - 1)) {
            return NONE;
        }
        Piece p = world.queues[queue].waiting.get(i);
        switch (what) {
            case 0: return p.flow.number;
            case 1: return p.place;
            case 2: return p.size;
            case 3: return p.pressed ? 1 : 0;
            default: return NONE;
        }
    }

    int segment(int ago, int what) {
        if (!in(ago, 0, Math.min(12, world.given.size()) - 1)) {
            return NONE;
        }
        Segment s = world.given.get(world.given.size() - 1 - ago);
        switch (what) {
            case 0: return s.flow.number;
            case 1: return s.place;
            case 2: return s.size;
            case 3: return s.packets;
            case 4: return s.pages;
            case 5: return s.apart;
            default: return NONE;
        }
    }

    long given(int what) {
        long all = 0;
        for (Segment s : world.given) {
            long[] of = {1, s.packets, s.size, s.apart > 0 ? 1 : 0, s.apart, s.size - s.apart, s.pages};
            if (!in(what, 0, 6)) {
                return NONE;
            }
            all += of[what];
        }
        return in(what, 0, 6) ? all : NONE;
    }

    int window(int i) {
        return in(i, 0, 40) ? world.window(i) : 0;
    }

    boolean isBothWays() {
        for (int a = 0; a < 256; a++) {
            for (int b : new int[] {0, 1, 2, 4, 8, 16, 32, 64, 128, a ^ 255}) {
                if (world.hash(a, b, 0, 0, 1) != world.hash(b, a, 0, 0, 1)
                        || world.hash(0, 3, a, b, 0) != world.hash(3, 0, b, a, 0)) {
                    return false;
                }
            }
        }
        return true;
    }

    int reach() {
        TreeSet<Integer> reached = new TreeSet<>(List.of(0));
        for (int field = 0; field < 5; field++) {
            TreeSet<Integer> more = new TreeSet<>();
            for (int v = 0; v < (field == 4 ? 2 : 256); v++) {
                int[] fields = new int[5];
                fields[field] = v;
                for (int e : reached) {
                    more.add(e ^ (world.hash(fields) & 15));
                }
            }
            reached = more;
        }
        return reached.size();
    }

    int aim(int flow, int entry) {
        Flow f = flowOf(flow);
        for (int port = 0; f != null && port < 256; port++) {
            if ((world.hash(f.fields[0], f.fields[1], port, f.fields[3], f.fields[4]) & 15) == entry) {
                return port;
            }
        }
        return NONE;
    }

    int spread(int what) {
        int best = NONE;
        int most = 0;
        World w = world.copy();
        for (int b = 0; b < 256; b++) {
            int word = b << 24 | b << 16 | b << 8 | b;
            w.key = keyOf(word, word, b);
            TreeSet<Integer> unlike = new TreeSet<>();
            for (Flow f : w.flows) {
                unlike.add(w.entryOf(f));
            }
            if (unlike.size() > most) {
                most = unlike.size();
                best = b;
            }
        }
        return most == 0 || !in(what, 0, 1) ? NONE : what == 0 ? best : most;
    }

    long ratio(int what) {
        if (world.given.isEmpty() || !in(what, 0, 3)) {
            return NONE;
        }
        BigInteger upper = BigInteger.valueOf(given(what < 2 ? 2 : 1));
        BigInteger lower = BigInteger.valueOf(given(what < 2 ? 1 : 0));
        BigInteger wanted = what == 0 || what == 2 ? upper : lower;
        return wanted.divide(upper.gcd(lower)).longValue();
    }

    int alike() {
        for (Flow f : world.flows) {
            for (Flow g : world.flows) {
                if (f.number < g.number && world.hash(f.fields) == world.hash(g.fields)) {
                    return 100 * f.number + g.number;
                }
            }
        }
        return NONE;
    }

    int load(int what) {
        World w = world.copy();
        if (what == 2) {
            w.balance();
        }
        TreeSet<Integer> all = new TreeSet<>();
        for (int q = 0; q < 4; q++) {
            all.add(w.hitsOf(q));
        }
        return !in(what, 0, 2) ? NONE : what == 1 ? all.first() : all.last();
    }

    int would(int n, int what) {
        if (!in(n, 1, 100) || !in(what, 0, 3) || world.time + n > 99999) {
            return NONE;
        }
        World w = world.copy();
        for (int i = 0; i < n; i++) {
            w.tick();
        }
        int[] answers = {w.waiting(), w.given.size() - world.given.size(), w.calls() - world.calls(), w.rules()};
        return answers[what];
    }

    int drain() {
        World w = world.copy();
        for (int t = 0; t <= 200; t++) {
            if (w.waiting() == 0) {
                return t;
            }
            w.tick();
        }
        return NONE;
    }

    int nextCall(int queue) {
        if (!in(queue, 0, 3) || world.queues[queue].waiting.isEmpty()) {
            return NONE;
        }
        World w = world.copy();
        int t = 0;
        while (w.queues[queue].calls == world.queues[queue].calls) {
            w.tick();
            t++;
        }
        return t;
    }

    int joined(int queue, int what) {
        if (!in(queue, 0, 3) || !in(what, 0, 2)) {
            return NONE;
        }
        World w = world.copy();
        w.terms[3] = what == 0 ? w.terms[3] : what == 1 ? 9999 : 1;
        while (!w.queues[queue].waiting.isEmpty()) {
            w.call(queue, false);
        }
        return w.given.size() - world.given.size();
    }

    int count(int what) {
        int[] sums = new int[20];
        for (Flow f : world.flows) {
            for (int w : new int[] {10, 11, 12, 18}) {
                sums[w] += of(f.number, w);
            }
        }
        switch (what) {
            case 0: return world.time;
            case 1: return world.flows.size();
            case 2: return world.rules();
            case 3: return world.mask;
            case 4: return world.waiting();
            case 5: return sums[10];
            case 6: return sums[11];
            case 7: return sums[12];
            case 8: return world.calls();
            case 9: return acts.size();
            case 10: return refused[1];
            case 11: return refused[2];
            case 12: return refused[4];
            case 13: return refused[5];
            case 23: return world.followed;
            case 24: return sums[18];
            default: return in(what, 14, 22) ? world.terms[what - 14] : NONE;
        }
    }

    int status() {
        return status;
    }
}
