/** Counts the answers that are not as due; every test ends with finish(). */
final class Due {
    static final int NO_SUCH_BOARD = -1000001;
    static final int NO_SUCH_LAYER = -1000002;
    static final int BAD_VALUE = -1000003;
    static final int FULL = -1000004;
    static final int NONE = -1000005;
    static final int REST = -1000006;

    private static final int MOST_TOLD = 40;

    private static int asked = 0;
    private static int wrong = 0;

    private Due() {
    }

    static void is(String call, long got, long want) {
        asked++;
        if (got != want) {
            wrong++;
            if (wrong <= MOST_TOLD) {
                System.out.println(call + " answered " + got + ", due is " + want);
            }
        }
    }

    static void holds(String what, boolean so) {
        is(what, so ? 1 : 0, 1);
    }

    static void finish() {
        System.out.println(wrong == 0 ? asked + " answers are as due" : wrong + " of " + asked + " answers are not as due");
        if (wrong != 0) {
            System.exit(1);
        }
    }
}
