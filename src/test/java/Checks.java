/** Counts the answers that are not the ones that are due, and prints each of them. */
final class Checks {
    private int wrong = 0;
    private int asked = 0;
    private int sentences = 0;
    private int askedBefore = 0;
    private String sentence = "";

    /** What is asked from here on is asked for this sentence of the document. */
    void sentence(String text) {
        endSentence();
        sentences++;
        askedBefore = asked;
        sentence = text;
    }

    void due(String call, long got, long want) {
        asked++;
        if (got != want) {
            wrong++;
            if (wrong <= 50) {
                String prefix = sentence.isEmpty() ? "" : "[" + sentence + "] ";
                System.out.println(prefix + call + " answered " + got + ", due is " + want);
            }
        }
    }

    void due(String call, boolean got, boolean want) {
        due(call, got ? 1L : 0L, want ? 1L : 0L);
    }

    void fault(String text) {
        due(text, true, false);
    }

    /** Ends the program, with exit code 1 if an answer was wrong or none was asked for. */
    void end() {
        endSentence();
        String ofSentences = sentences == 0 ? "" : sentences + " sentences, ";
        System.out.println(ofSentences + asked + " answers, " + wrong + " not as due");
        if (wrong != 0 || asked == 0) {
            System.exit(1);
        }
    }

    private void endSentence() {
        if (sentences > 0 && asked == askedBefore) {
            fault("nothing was asked for this sentence");
        }
    }
}
