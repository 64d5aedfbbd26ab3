/** Texts fed to an object as the face takes them. */
final class Told {
    static final String HOUSE = "house cellar 2 damp 50;";

    private Told() {
    }

    /** Feeds a text, filled up with blanks to whole feeds: what the last feed answered. */
    static int feed(NightRound x, String text) {
        int answer = x.size(12);
        for (int from = 0; from < text.length(); from += 20) {
            answer = x.feed(number(text, from), number(text, from + 4), number(text, from + 8),
                number(text, from + 12), number(text, from + 16));
        }
        return answer;
    }

    private static int number(String text, int from) {
        int number = 0;
        for (int i = from; i < from + 4; i++) {
            number = number << 8 | (i < text.length() ? text.charAt(i) : ' ');
        }
        return number;
    }

    static int tell(NightRound x, String text) {
        feed(x, text);
        return x.house(text.length());
    }

    /** An object with a house; a text with a fault is a fault of the test. */
    static NightRound house(String text) {
        NightRound x = new NightRound();
        if (tell(x, text) < 0) {
            throw new IllegalStateException("fault " + x.fault() + " at " + x.where() + ": " + text);
        }
        return x;
    }
}
