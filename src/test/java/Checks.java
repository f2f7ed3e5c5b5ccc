/** Counts and prints the answers that are not as due. */
final class Checks {
    private int asked = 0;
    private int wrong = 0;

    void due(String call, long got, long want) {
        asked++;
        if (got != want) {
            wrong++;
            System.out.println(call + " answered " + got + ", due is " + want);
        }
    }

    void due(String call, boolean got, boolean want) {
        due(call, got ? 1 : 0, want ? 1 : 0);
    }

    int wrong() {
        return wrong;
    }

    void finish() {
        System.out.println(asked + " answers asked, " + wrong + " wrong");
        if (asked == 0 || wrong != 0) {
            System.exit(1);
        }
    }
}
