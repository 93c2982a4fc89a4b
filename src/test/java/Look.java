/** All that can be asked of an object but what is told of refused calls, as one number. */
final class Look {
    private Look() {
    }

    static long atAll(RxQueues x) {
        long all = 17;
        for (int f = 0; f < 24; f++) {
            all = mix(all, x.hashOf(f));
            all = mix(all, x.missing(f, 0));
            all = mix(all, x.missing(f, 1));
            for (int w = 0; w < 20; w++) {
                all = mix(all, x.of(f, w));
            }
        }
        for (int e = 0; e < 16; e++) {
            for (int w = 0; w < 3; w++) {
                all = mix(all, x.entry(e, w));
            }
        }
        for (int q = 0; q < 4; q++) {
            for (int w = 0; w < 10; w++) {
                all = mix(all, x.queue(q, w));
            }
            for (int i = 0; i < 32; i++) {
                for (int w = 0; w < 4; w++) {
                    all = mix(all, x.waits(q, i, w));
                }
            }
            all = mix(all, x.nextCall(q));
        }
        for (int ago = 0; ago < 12; ago++) {
            for (int w = 0; w < 6; w++) {
                all = mix(all, x.segment(ago, w));
            }
        }
        for (int w = 0; w < 7; w++) {
            all = mix(all, x.given(w));
        }
        for (int i = 0; i < 41; i++) {
            all = mix(all, x.window(i));
        }
        for (int w = 0; w < 25; w++) {
            if (w < 9 || w > 13) {
                all = mix(all, x.count(w));
            }
        }
        return all;
    }

    private static long mix(long all, long one) {
        return (all ^ one) * 0x9E3779B97F4A7C15L + (all >>> 29);
    }
}
