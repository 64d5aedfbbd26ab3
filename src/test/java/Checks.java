/** Counts the answers that are not as due, and ends a test with exit code 1 if there was one. */
final class Checks {
    private final String test;
    private int asked;
    private int wrong;

    Checks(String test) {
        this.test = test;
    }

    void due(String call, long got, long want) {
        asked++;
        if (got != want) {
            wrong++;
            System.out.println(test + ": " + call + " answered " + got + ", due is " + want);
        }
    }

    void due(String call, boolean got, boolean want) {
        due(call, got ? 1 : 0, want ? 1 : 0);
    }

    /** A refused call: its answer, and the trouble behind it. */
    void refused(String call, NightRound x, long got, int trouble) {
        due(call, got, NightRound.NONE);
        due(call + ", trouble", x.trouble(), trouble);
    }

    void refused(String call, NightRound x, boolean got, int trouble) {
        due(call, got, false);
        due(call + ", trouble", x.trouble(), trouble);
    }

    /** A call that isn't refused. */
    void given(String call, NightRound x, long got, long want) {
        due(call, got, want);
        due(call + ", trouble", x.trouble(), 0);
    }

    void given(String call, NightRound x, boolean got) {
        due(call, got, true);
        due(call + ", trouble", x.trouble(), 0);
    }

    void end() {
        System.out.println(test + ": " + asked + " answers, " + wrong + " not as due");
        if (wrong != 0 || asked == 0) {
            System.exit(1);
        }
    }
}
