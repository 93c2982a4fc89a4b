/** Counts answers that are not as due; a test ends with finish(). */
final class Check {
    private int wrong;
    private int looked;

    void due(String call, long got, long want) {
        looked++;
        if (got != want) {
            wrong++;
            if (wrong <= 50) {
                System.out.println(call + " answered " + got + ", due is " + want);
            }
        }
    }

    void due(String call, boolean got, boolean want) {
        due(call, got ? 1 : 0, want ? 1 : 0);
    }

    int wrong() {
        return wrong;
    }

    void finish() {
        System.out.println(looked + " answers, " + wrong + " of them not as due");
        if (wrong != 0 || looked == 0) {
            System.exit(1);
        }
    }
}
