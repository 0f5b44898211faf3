/** Counts the answers that are not as due, and prints each of them. */
final class Check {
    private int asked = 0;
    private int wrong = 0;
    private String sentence = "";

    /** The sentence of the document to which all that is asked from here on belongs. */
    void about(String newSentence) {
        sentence = "\"" + newSentence + "\": ";
    }

    void due(String call, long got, long want) {
        asked++;
        if (got != want) {
            wrong++;
            System.out.println(sentence + call + " answered " + got + ", due is " + want);
        }
    }

    void due(String call, boolean got, boolean want) {
        due(call, got ? 1L : 0L, want ? 1L : 0L);
    }

    void due(String call, String got, String want) {
        asked++;
        if (!got.equals(want)) {
            wrong++;
            System.out.println(sentence + call + " answered " + got + ", due is " + want);
        }
    }

    boolean failed() {
        return wrong > 0;
    }

    void end() {
        System.out.println(asked + " answers, " + wrong + " not as due");
        if (wrong != 0) {
            System.exit(1);
        }
    }
}
