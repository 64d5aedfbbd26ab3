/** Counts the answers that are not as due, and ends a test with exit code 1 if there was one. */
final class Checks {
    private final String test;
    private final Document document = new Document();
    private String sentence = "";
    private int askedOfSentence;
    private int sentences;
    private int asked;
    private int wrong;

    Checks(String test) {
        this.test = test;
    }

    /** What is asked from here on is asked by this sentence of the document's Terms. */
    void term(String words) {
        begin(words, document.hasTerm(words));
    }

    /** What is asked from here on is asked by this sentence of a promise. */
    void promise(int number, String words) {
        begin("promise " + number + ": " + words, document.hasInPromise(number, words));
    }

    private void begin(String words, boolean isThere) {
        finishSentence();
        sentence = words;
        sentences++;
        askedOfSentence = 0;
        if (!isThere) {
            fail("the document doesn't say: " + words);
        }
    }

    /* A sentence of which nothing is asked would look as if it had a test. */
    private void finishSentence() {
        if (!sentence.isEmpty() && askedOfSentence == 0) {
            fail("nothing is asked of: " + sentence);
        }
    }

    private void fail(String what) {
        wrong++;
        System.out.println(test + ": " + what);
    }

    void due(String call, long got, long want) {
        asked++;
        askedOfSentence++;
        if (got != want) {
            fail((sentence.isEmpty() ? "" : "[" + sentence + "] ") + call + " answered " + got + ", due is " + want);
        }
    }

    void due(String call, boolean got, boolean want) {
        due(call, got ? 1 : 0, want ? 1 : 0);
    }

    void due(String call, String got, String want) {
        due(call + " (" + got + ", due is " + want + ")", got.equals(want), true);
    }

    /** A refused call: its answer, and the trouble behind it. */
    void refused(String call, NightRound x, long got, int trouble) {
        due(call, got, NightRound.NONE);
        due(call + ", trouble", x.trouble(), trouble);
    }

    void refused(String call, NightRound x, boolean got, int trouble) {
        due(call, got, false);
        due(call + ", trouble", x.trouble(), trouble);
    }

    /** A call that isn't refused. */
    void given(String call, NightRound x, long got, long want) {
        due(call, got, want);
        due(call + ", trouble", x.trouble(), 0);
    }

    void given(String call, NightRound x, boolean got) {
        due(call, got, true);
        due(call + ", trouble", x.trouble(), 0);
    }

    void end() {
        finishSentence();
        String of = sentences > 0 ? " by " + sentences + " sentences" : "";
        System.out.println(test + ": " + asked + " answers" + of + ", " + wrong + " not as due");
        if (wrong != 0 || asked == 0) {
            System.exit(1);
        }
    }
}
