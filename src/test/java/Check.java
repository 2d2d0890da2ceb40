/** Notes answers that are not as due, and ends a test by what it has noted. */
final class Check {
    private final String test;
    private String sentence = "";
    private int wrong = 0;
    private int seen = 0;

    Check(String test) {
        this.test = test;
    }

    /** What is due from now on is asked by this sentence of the document. */
    void about(String words) {
        sentence = "'" + words + "': ";
    }

    void due(String call, long got, long want) {
        seen++;
        if (got != want) {
            note(call, Long.toString(got), Long.toString(want));
        }
    }

    void due(String call, boolean got, boolean want) {
        due(call, got ? 1 : 0, want ? 1 : 0);
    }

    void due(String call, String got, String want) {
        seen++;
        if (!got.equals(want)) {
            note(call, got, want);
        }
    }

    private void note(String call, String got, String want) {
        wrong++;
        if (wrong <= 20) {
            System.out.println(test + ": " + sentence + call + " answered " + got + ", due is " + want);
        }
    }

    boolean isWrong() {
        return wrong != 0;
    }

    void end() {
        System.out.println(test + ": " + seen + " answers, " + wrong + " not as due");
        if (wrong != 0) {
            System.exit(1);
        }
    }
}
