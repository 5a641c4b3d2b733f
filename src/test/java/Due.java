/** Compares answers with those that are due, tells the wrong ones, and ends the test. */
final class Due {
    private static final int MOST_TOLD = 40;

    private final String test;
    private int compared = 0;
    private int wrong = 0;

    Due(String test) {
        this.test = test;
    }

    void is(String call, Object got, Object want) {
        compared++;
        if (!got.equals(want)) {
            wrong++;
            if (wrong <= MOST_TOLD) {
                System.out.println(test + ": " + call + " answered " + got + ", due is " + want);
            }
        }
    }

    boolean allRight() {
        return wrong == 0;
    }

    void end() {
        System.out.println(test + ": " + compared + " answers compared, " + wrong + " wrong");
        if (wrong != 0 || compared == 0) {
            System.exit(1);
        }
    }
}
