/** Collects the answers of one test and ends it with exit code 1 if one was not the answer due. */
final class Due {
    private static final int MOST_PRINTED = 50;
    private static final long LONGEST_MILLIS = 300_000;

    private int asked = 0;
    private int wrong = 0;
    private String sentence = "";

    Due() {
        // A call that doesn't end would hold up the whole run without a word of why.
        Thread watch = new Thread(this::stopWhatDoesNotEnd);
        watch.setDaemon(true);
        watch.start();
    }

    /** A test of one sentence of the document: it has to ask something, and no call may throw. */
    void sentence(String words, Runnable test) {
        sentence = words;
        int before = asked;
        try {
            test.run();
        } catch (RuntimeException thrown) {
            tell("threw " + thrown);
        }
        holds("the test asks something", asked > before);
        sentence = "";
    }

    void is(String call, long got, long want) {
        asked++;
        if (got != want) {
            tell(call + " answered " + got + ", due is " + want);
        }
    }

    void is(String call, boolean got, boolean want) {
        is(call, got ? 1 : 0, want ? 1 : 0);
    }

    void holds(String what, boolean holds) {
        asked++;
        if (!holds) {
            tell("does not hold: " + what);
        }
    }

    boolean allRight() {
        return wrong == 0;
    }

    void end() {
        System.out.println(asked + " answers looked at, " + wrong + " not as due");
        if (wrong != 0 || asked == 0) {
            System.exit(1);
        }
    }

    private void tell(String text) {
        wrong++;
        if (wrong <= MOST_PRINTED) {
            System.out.println(sentence.isEmpty() ? text : "\"" + sentence + "\": " + text);
        }
    }

    private void stopWhatDoesNotEnd() {
        try {
            Thread.sleep(LONGEST_MILLIS);
        } catch (InterruptedException interrupted) {
            return;
        }
        System.out.println("does not end" + (sentence.isEmpty() ? "" : ": \"" + sentence + "\""));
        System.out.flush();
        Runtime.getRuntime().halt(1);
    }
}
