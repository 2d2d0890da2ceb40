/** Notes answers that are not as due, and ends a test by what it has noted. */
final class Check {
    private final String test;
    private int wrong = 0;
    private int seen = 0;

    Check(String test) {
        this.test = test;
    }

    void due(String call, long got, long want) {
        seen++;
        if (got != want) {
            wrong++;
            if (wrong <= 20) {
                System.out.println(test + ": " + call + " answered " + got + ", due is " + want);
            }
        }
    }

    void due(String call, boolean got, boolean want) {
        due(call, got ? 1 : 0, want ? 1 : 0);
    }

    boolean isWrong() {
        return wrong != 0;
    }

    void end() {
        System.out.println(test + ": " + seen + " answers, " + wrong + " not as due");
        if (wrong != 0) {
            System.exit(1);
        }
    }
}
