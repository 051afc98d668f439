/** Compares answers with those that are due, prints those that differ, and ends a test. */
final class Checks {
    private static final int PRINTED_AT_MOST = 50;

    private int asked = 0;
    private int wrong = 0;

    void due(String call, long want, long got) {
        asked++;
        if (got != want) {
            wrong++;
            if (wrong <= PRINTED_AT_MOST) {
                System.out.println(call + " answered " + got + ", due is " + want);
            }
        }
    }

    void holds(String what, boolean isSo) {
        due(what, 1, isSo ? 1 : 0);
    }

    int wrongSoFar() {
        return wrong;
    }

    void end() {
        System.out.println(asked + " answers, " + wrong + " not as due");
        if (asked == 0 || wrong != 0) {
            System.exit(1);
        }
    }
}
