/** Compares answers with what is due, and ends a test's main with the exit code. */
final class Check {
    private int wrong;
    private int looked;
    private int sentences;
    private String sentence = "";
    private int lookedBeforeSentence;

    /** The answers from here on belong to one sentence of the document, which a wrong one names. */
    void sentence(String text) {
        endSentence();
        sentence = text;
        sentences++;
        lookedBeforeSentence = looked;
    }

    void same(String what, long got, long want) {
        looked++;
        if (got != want) {
            tell(what + " answered " + got + ", due is " + want);
        }
    }

    void isTrue(String what, boolean got) {
        same(what, got ? 1 : 0, 1);
    }

    void isFalse(String what, boolean got) {
        same(what, got ? 1 : 0, 0);
    }

    void end() {
        endSentence();
        String parts = sentences == 0 ? "" : sentences + " sentences, ";
        System.out.println(parts + looked + " answers, " + wrong + " wrong");
        if (wrong != 0 || looked == 0) {
            System.exit(1);
        }
    }

    private void endSentence() {
        if (!sentence.isEmpty() && looked == lookedBeforeSentence) {
            tell("no answer was looked at");
        }
        sentence = "";
    }

    private void tell(String text) {
        wrong++;
        System.out.println(sentence.isEmpty() ? text : "\"" + sentence + "\": " + text);
    }
}
