/** Counts and prints the answers that are not as due, each with the sentence of the document it breaks. */
final class Checks {
    private int asked = 0;
    private int wrong = 0;
    private int askedBefore = -1;
    private String sentence = "";

    /** Names the sentence of the document that the checks after it hold. */
    void says(String place, String words) {
        closeSentence();
        sentence = place + ", \"" + words + "\": ";
        askedBefore = asked;
    }

    void due(String call, long got, long want) {
        asked++;
        if (got != want) {
            wrong++;
            System.out.println(sentence + call + " answered " + got + ", due is " + want);
        }
    }

    void due(String call, boolean got, boolean want) {
        due(call, got ? 1 : 0, want ? 1 : 0);
    }

    int wrong() {
        return wrong;
    }

    void finish() {
        closeSentence();
        System.out.println(asked + " answers asked, " + wrong + " wrong");
        if (asked == 0 || wrong != 0) {
            System.exit(1);
        }
    }

    /** A sentence that nothing was asked about only looks tested. */
    private void closeSentence() {
        if (asked == askedBefore) {
            wrong++;
            System.out.println(sentence + "nothing was asked");
        }
    }
}
