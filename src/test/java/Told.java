/** Texts fed to an object as the face takes them. */
final class Told {
    /** As many lines of each sort as there is room for. */
    static final String FULLEST = "house cellar 5 damp 50;ring p plain places 9;ring c cellar places 8;ring a attic places 9;ring s plain places 2;"
        + "narrow p 8 by 0;narrow c 0 by 5;narrow c 7 by 9;narrow a 0 by 3;narrow a 8 by 4;narrow s 1 by 1;"
        + "door p 0 c 0;door p 8 a 8;door c 7 a 0;door s 0 s 1;door s 1 p 4;"
        + "thing t plain in p at 8 size 9;thing u piano in c at 7 size 5;thing v broken in s at 0 size 1;thing w pet in a at 0 size 9;"
        + "thing x plain in a at 8 size 4;thing y pet in p at 0 size 1;thing z plain in c at 0 size 6;"
        + "want t in p at 0 night 1 pays 99;want u in c at 0 night 45 pays 1;want w in a at 8 night 60 pays 9;"
        + "want x in a at 7 night 2 pays 5;want y in p at 8 night 9 pays 7;want z in s at 1 night 5 pays 3;"
        + "found 0 at 11;found 12 at 11;lost 1 at 11;lost 99 at 0;lost 2 at 3;found 24 at 11";

    private Told() {
    }

    /** Feeds a text, filled up with blanks to whole feeds: what the last feed answered. */
    static int feed(NightRound x, String text) {
        int answer = x.size(12);
        for (int from = 0; from < text.length(); from += 20) {
            answer = x.feed(number(text, from), number(text, from + 4), number(text, from + 8),
                number(text, from + 12), number(text, from + 16));
        }
        return answer;
    }

    /** The four bytes from a place on, as one number of feed. */
    static int number(String text, int from) {
        int number = 0;
        for (int i = from; i < from + 4; i++) {
            number = number << 8 | (i < text.length() ? text.charAt(i) : ' ');
        }
        return number;
    }

    static int tell(NightRound x, String text) {
        feed(x, text);
        return x.house(text.length());
    }

    /** An object with a house; a text with a fault is a fault of the test. */
    static NightRound house(String text) {
        NightRound x = new NightRound();
        if (tell(x, text) < 0) {
            throw new IllegalStateException("fault " + x.fault() + " at " + x.where() + ": " + text);
        }
        return x;
    }
}
