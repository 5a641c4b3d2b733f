/** Compares answers with those that are due, tells the wrong ones, and ends the test. */
final class Due {
    private static final int MOST_TOLD = 40;
    private static final int MOST_TOLD_OF_SENTENCE = 3;

    private final String test;
    private int compared = 0;
    private int wrong = 0;
    private String sentence = "";
    private int sentences = 0;
    private int comparedBefore = 0;
    private int wrongBefore = 0;

    Due(String test) {
        this.test = test;
    }

    /** Makes the checks one after another; what one throws is its own fault and doesn't keep the next from its turn. */
    void check(Runnable... checks) {
        for (Runnable check : checks) {
            try {
                check.run();
            } catch (RuntimeException | Error thrown) {
                tell("the check threw " + thrown);
            }
        }
    }

    /** The document's words that the next answers are compared for; they are told with a wrong answer. */
    void sentence(String words) {
        endSentence();
        sentence = words;
        sentences++;
        comparedBefore = compared;
        wrongBefore = wrong;
    }

    private void endSentence() {
        if (sentences > 0 && compared == comparedBefore) {
            tell("no answer was compared");
        }
    }

    void is(String call, Object got, Object want) {
        compared++;
        if (!got.equals(want)) {
            tell(call + " answered " + got + ", due is " + want);
        }
    }

    private void tell(String fault) {
        wrong++;
        if (wrong - wrongBefore <= (sentences == 0 ? MOST_TOLD : MOST_TOLD_OF_SENTENCE)) {
            System.out.println(test + ": " + fault + (sentences == 0 ? "" : "\n    by: " + sentence));
        }
    }

    boolean allRight() {
        return wrong == 0;
    }

    void end() {
        endSentence();
        String told = sentences == 0 ? ": " : ": " + sentences + " sentences, ";
        System.out.println(test + told + compared + " answers compared, " + wrong + " wrong");
        if (wrong != 0 || compared == 0) {
            System.exit(1);
        }
    }
}
