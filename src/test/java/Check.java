/**
 * Counts the answers that are not as due, sentence by sentence of the document, and ends the test
 * with code 1 if there were any.
 */
final class Check {
    private final String promise;
    private String sentence = "";
    private int callsOfSentence = 0;
    private int wrong = 0;

    /** The answers are due by this promise (or by this part of the document). */
    Check(String itsPromise) {
        promise = itsPromise;
    }

    /** What follows, up to the next sentence, is due by this one. */
    void sentence(String text) {
        if (!sentence.isEmpty()) {
            endSentence();
        }
        sentence = text;
    }

    void due(String call, long got, long want) {
        callsOfSentence++;
        if (got != want) {
            fault(call + " answered " + got + ", due is " + want);
        }
    }

    void due(String call, String got, String want) {
        callsOfSentence++;
        if (!got.equals(want)) {
            fault(call + " answered [" + got + "], due is [" + want + "]");
        }
    }

    void fault(String text) {
        wrong++;
        System.out.println(promise + (sentence.isEmpty() ? "" : ", \"" + sentence + "\"")
                + ": " + text);
    }

    private void endSentence() {
        if (callsOfSentence == 0) {
            fault("nothing was tested");
        }
        callsOfSentence = 0;
    }

    void end() {
        endSentence();
        if (wrong != 0) {
            System.out.println(wrong + " answers are not as due");
            System.exit(1);
        }
    }
}
