import java.lang.reflect.InvocationTargetException;
import java.lang.reflect.Method;
import java.lang.reflect.Modifier;
import java.util.ArrayList;
import java.util.Comparator;
import java.util.List;
import java.util.Random;

/** No call throws or fails to end, whatever its arguments and in whatever state: every call with ints at all edges. */
public final class EndsTest {
    private static final int[] EDGES = {Integer.MIN_VALUE, Integer.MIN_VALUE + 1, -100000, -65, -2, -1, 0, 1, 2, 3, 4, 5,
        6, 7, 8, 9, 12, 13, 15, 16, 17, 19, 20, 21, 22, 23, 24, 25, 31, 32, 33, 40, 41, 63, 64, 65, 99, 100, 101, 127,
        128, 255, 256, 257, 999, 1000, 1023, 1024, 1500, 1501, 4096, 4097, 9999, 10000, 99999, 100000, 1000000000,
        Integer.MAX_VALUE - 1, Integer.MAX_VALUE};

    private final Random random;
    private final List<Method> calls = new ArrayList<>();

    private EndsTest(int seed) {
        random = new Random(seed);
        for (Method m : RxQueues.class.getDeclaredMethods()) {
            if (Modifier.isPublic(m.getModifiers())) {
                calls.add(m);
            }
        }
        calls.sort(Comparator.comparing(Method::getName));
    }

    public static void main(String[] args) throws Exception {
        Check check = new Check();
        for (int seed = 0; seed < 12; seed++) {
            EndsTest one = new EndsTest(seed);
            RxQueues[] states = {new RxQueues(), Made.busy(), full(), Made.together(1), atTheEnd()};
            for (RxQueues x : states) {
                check.due("faults with seed " + seed, one.play(x, 600), 0);
            }
        }
        EndsTest one = new EndsTest(99);
        for (Method m : one.calls) {
            check.due("edges of " + m.getName(), one.everyEdge(m), 0);
        }
        check.finish();
    }

    /** As many flows and rules as there can be, full queues, both images, 8 acts to undo. */
    private static RxQueues full() {
        RxQueues x = Made.onEntries(0, 1, 2, 3, 4, 5, 6, 7, 8, 9, 10, 11, 12, 13, 14, 15, 0, 1, 2, 3, 4, 5, 6, 7);
        x.terms(0, 32);
        for (int i = 0; i < 7; i++) {
            x.steer(i, 0);
            x.burst(i, 20, 1500);
        }
        x.image(0);
        x.image(1);
        return x;
    }

    private static RxQueues atTheEnd() {
        RxQueues x = Made.together(2);
        Made.tickUntil(x, 99998);
        Made.gapUntil(x, 1, 999999999);
        x.packet(0, 1, false);
        return x;
    }

    /** Mostly edges at random; small numbers often, so that many calls are not refused. */
    private Object[] arguments(Method m) {
        Object[] all = new Object[m.getParameterCount()];
        for (int i = 0; i < all.length; i++) {
            if (m.getParameterTypes()[i] == boolean.class) {
                all[i] = random.nextBoolean();
            } else if (random.nextInt(3) > 0) {
                all[i] = random.nextInt(4);
            } else {
                all[i] = EDGES[random.nextInt(EDGES.length)];
            }
        }
        return all;
    }

    private int play(RxQueues x, int n) throws IllegalAccessException {
        int faults = 0;
        for (int i = 0; i < n; i++) {
            Method m = calls.get(random.nextInt(calls.size()));
            faults += fault(x, m, arguments(m));
        }
        return faults;
    }

    /** Each edge in each place, the others at random. */
    private int everyEdge(Method m) throws IllegalAccessException {
        int faults = 0;
        for (RxQueues x : new RxQueues[] {new RxQueues(), Made.busy(), full()}) {
            for (int place = 0; place < m.getParameterCount(); place++) {
                for (int edge : EDGES) {
                    Object[] all = arguments(m);
                    if (m.getParameterTypes()[place] == int.class) {
                        all[place] = edge;
                    }
                    faults += fault(x, m, all);
                }
            }
        }
        return faults;
    }

    private static int fault(RxQueues x, Method m, Object[] all) throws IllegalAccessException {
        try {
            m.invoke(x, all);
            return 0;
        } catch (InvocationTargetException e) {
            System.out.println(m.getName() + java.util.Arrays.toString(all) + " threw " + e.getCause());
            return 1;
        }
    }
}
