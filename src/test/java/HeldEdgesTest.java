/** HELD and PUT of Terms III, promises 24 to 26, sentence by sentence: the edges of holds, putFor, holdsToMeet. */
public final class HeldEdgesTest {
    private static final Checks CHECKS = new Checks("HeldEdgesTest");
    private static final String HOUSE = "house cellar 5 damp 0;";
    private static final int[] FAR_OFF = {-1, Integer.MIN_VALUE, Integer.MAX_VALUE, 1000};

    private HeldEdgesTest() {
    }

    public static void main(String[] args) {
        held();
        leastBits();
        put();
        holdsWithin30();
        holdsRefused();
        putWithin60();
        putRefused();
        meetWithin30();
        meetRefused();
        CHECKS.end();
    }

    private static NightRound row() {
        return Told.house(HOUSE + "ring r plain places 9;ring q plain places 9;thing a plain in r at 0 size 1;thing b plain in r at 4 size 1;"
            + "thing c broken in q at 4 size 1;thing d plain in q at 0 size 1");
    }

    private static void held() {
        CHECKS.term("HELD for a thing, a place, so many NIGHTS: the fewest more things that must be held from NOW on so that it is there just behind so many NIGHTS");
        NightRound x = row();
        CHECKS.given("holds(0, 0, 0, 0): it is there NOW", x, x.holds(0, 0, 0, 0), 0);
        CHECKS.given("holds(0, 0, 1, 0)", x, x.holds(0, 0, 1, 0), -2);
        CHECKS.given("holds(0, 0, 1, 1): none", x, x.holds(0, 0, 1, 1), 0);
        CHECKS.given("holds(0, 0, 0, 1): itself", x, x.holds(0, 0, 0, 1), 1);
        CHECKS.given("holds(0, 0, 3, 3): just then", x, x.holds(0, 0, 3, 3), 0);
        CHECKS.given("holds(0, 0, 3, 4): it may not go by", x, x.holds(0, 0, 3, 4), 2);
        CHECKS.given("holds(0, 0, 2, 4): it can't be stopped there", x, x.holds(0, 0, 2, 4), -2);
        CHECKS.given("holds(3, 1, 3, 9): a broken one holds it", x, x.holds(3, 1, 3, 9), 0);
        CHECKS.given("holds(3, 1, 4, 9): where the broken one is", x, x.holds(3, 1, 4, 9), -2);
        CHECKS.given("holds(0, 1, 0, 9): another ring", x, x.holds(0, 1, 0, 9), -2);
        x.hold(1);
        CHECKS.given("holds(0, 0, 3, 4): none more", x, x.holds(0, 0, 3, 4), 0);
        CHECKS.given("holds(0, 0, 4, 4): what is held isn't let go", x, x.holds(0, 0, 4, 4), -2);
        x.hold(0);
        CHECKS.given("holds(0, 0, 0, 30): none more", x, x.holds(0, 0, 0, 30), 0);
        CHECKS.due("size(10): only thought of", x.size(10), 2);
    }

    private static void leastBits() {
        CHECKS.term("of like ones the least bits");
        NightRound x = Told.house(HOUSE + "ring r plain places 9;thing a plain in r at 3 size 1;thing b plain in r at 2 size 1;thing c plain in r at 1 size 1");
        CHECKS.given("holds(2, 0, 1, 5): by either of three", x, x.holds(2, 0, 1, 5), 1);
        CHECKS.given("holds(1, 0, 2, 5): by either of two", x, x.holds(1, 0, 2, 5), 1);
        NightRound turned = Told.house(HOUSE + "ring r plain places 9;thing a plain in r at 1 size 1;thing b plain in r at 2 size 1;thing c plain in r at 3 size 1");
        CHECKS.given("holds(0, 0, 1, 5): by itself", turned, turned.holds(0, 0, 1, 5), 1);
        CHECKS.given("holds(1, 0, 2, 5)", turned, turned.holds(1, 0, 2, 5), 2);
        NightRound last = Told.house(Told.FULLEST);
        CHECKS.given("holds(6, 1, 0, 5): the last thing", last, last.holds(6, 1, 0, 5), 64);
    }

    private static void put() {
        CHECKS.term("PUT for these: the first place without a thing (or its own), in its ring, to which it must be put NOW so that it is there just then "
            + "(what is held staying so, it too).");
        NightRound x = row();
        CHECKS.given("putFor(3, 3, 9): the first of many, its own", x, x.putFor(3, 3, 9), 0);
        x.put(3, 1, 2);
        CHECKS.given("putFor(3, 3, 9): the first of many", x, x.putFor(3, 3, 9), 0);
        CHECKS.given("putFor(3, 3, 0)", x, x.putFor(3, 3, 0), 3);
        x.put(0, 1, 0);
        CHECKS.given("putFor(3, 3, 3): 0 has a thing", x, x.putFor(3, 3, 3), 1);
        CHECKS.given("putFor(3, 4, 1): where the broken one is", x, x.putFor(3, 4, 1), -2);
        CHECKS.given("putFor(3, 0, 1): from the last place", x, x.putFor(3, 0, 1), 8);
        CHECKS.given("putFor(3, 1, 2): from the last place", x, x.putFor(3, 1, 2), 8);
        CHECKS.given("putFor(1, 0, 5): from where it is", x, x.putFor(1, 0, 5), 4);
        x.hold(3);
        CHECKS.given("putFor(3, 8, 60): a held one stays", x, x.putFor(3, 8, 60), 8);
        CHECKS.given("putFor(3, 2, 60): its own place", x, x.putFor(3, 2, 60), 2);
        CHECKS.given("putFor(3, 0, 60): another thing's place", x, x.putFor(3, 0, 60), -2);
        CHECKS.given("putFor(0, 1, 60): behind the held one", x, x.putFor(0, 1, 60), 0);
        CHECKS.due("thing(3, 2): only thought of", x.thing(3, 2), 2);
        putAway();
    }

    /* Where it is put it keeps those behind it, where it was it keeps none. */
    private static void putAway() {
        NightRound x = Told.house("house cellar 1 damp 0;ring r plain places 4;thing a plain in r at 0 size 1;"
            + "thing b plain in r at 3 size 1;thing c plain in r at 1 size 1;narrow r 3 by 0");
        CHECKS.given("putFor(0, 2, 2): its own place is left", x, x.putFor(0, 2, 2), 2);
        CHECKS.given("putFor(1, 2, 2): it is in front where it is put", x, x.putFor(1, 2, 2), 2);
        CHECKS.given("putFor(1, 0, 2)", x, x.putFor(1, 0, 2), 3);
        /* Behind the piano the large one can't get ahead of it, to where it would be in its way. */
        NightRound piano = Told.house("house cellar 1 damp 0;ring r plain places 9;narrow r 6 by 4;thing a piano in r at 0 size 1;thing b plain in r at 3 size 5");
        CHECKS.given("putFor(0, 5, 9): it keeps the one behind it", piano, piano.putFor(0, 5, 9), 4);
        NightRound few = Told.house(HOUSE + "ring r plain places 3;thing a plain in r at 0 size 1;thing b broken in r at 2 size 1");
        CHECKS.given("putFor(0, 0, 1): there is no place behind the last one", few, few.putFor(0, 0, 1), -2);
    }

    /* In a cellar of five a thing has six steps in 30 nights. */
    private static void holdsWithin30() {
        CHECKS.promise(24, "HELD for so many NIGHTS (0 .. 30), as bits; -2 it can't be.");
        NightRound x = Told.house(HOUSE + "ring r cellar places 9;thing a plain in r at 0 size 1");
        CHECKS.given("holds(0, 0, 6, 30)", x, x.holds(0, 0, 6, 30), 0);
        CHECKS.given("holds(0, 0, 6, 29)", x, x.holds(0, 0, 6, 29), -2);
        CHECKS.given("holds(0, 0, 5, 29)", x, x.holds(0, 0, 5, 29), 0);
        CHECKS.given("holds(0, 0, 5, 30)", x, x.holds(0, 0, 5, 30), -2);
        CHECKS.given("holds(0, 0, 0, 30)", x, x.holds(0, 0, 0, 30), 1);
        CHECKS.given("holds(0, 0, 0, 4)", x, x.holds(0, 0, 0, 4), 0);
        CHECKS.given("holds(0, 0, 8, 30): the last place", x, x.holds(0, 0, 8, 30), -2);
    }

    private static void holdsRefused() {
        CHECKS.promise(24, "NONE: 1; 2.");
        NightRound x = row();
        CHECKS.refused("holds(4, 0, 0, 0)", x, x.holds(4, 0, 0, 0), 1);
        CHECKS.refused("holds(0, 2, 0, 0)", x, x.holds(0, 2, 0, 0), 1);
        CHECKS.refused("holds(0, 0, 9, 0)", x, x.holds(0, 0, 9, 0), 1);
        CHECKS.refused("holds(0, 0, 0, 31)", x, x.holds(0, 0, 0, 31), 2);
        CHECKS.refused("holds(0, 1, 0, 31): another ring", x, x.holds(0, 1, 0, 31), 2);
        NightRound none = new NightRound();
        CHECKS.refused("holds(0, 0, 0, 0) without a house", none, none.holds(0, 0, 0, 0), 1);
        for (int far : FAR_OFF) {
            CHECKS.refused("holds(" + far + ", 0, 0, 0)", x, x.holds(far, 0, 0, 0), 1);
            CHECKS.refused("holds(0, " + far + ", 0, 0)", x, x.holds(0, far, 0, 0), 1);
            CHECKS.refused("holds(0, 0, " + far + ", 0)", x, x.holds(0, 0, far, 0), 1);
            CHECKS.refused("holds(0, 0, 0, " + far + ")", x, x.holds(0, 0, 0, far), 2);
            CHECKS.refused("holds(4, 0, 0, " + far + "): 1 is named first", x, x.holds(4, 0, 0, far), 1);
        }
    }

    /* In a cellar of five a thing has twelve steps in 60 nights. */
    private static void putWithin60() {
        CHECKS.promise(25, "PUT for so many NIGHTS (0 .. 60): the place; -2 it can't be.");
        NightRound x = Told.house(HOUSE + "ring r cellar places 9;thing a plain in r at 4 size 1");
        CHECKS.given("putFor(0, 3, 60)", x, x.putFor(0, 3, 60), 0);
        CHECKS.given("putFor(0, 2, 59)", x, x.putFor(0, 2, 59), 0);
        CHECKS.given("putFor(0, 2, 60)", x, x.putFor(0, 2, 60), 8);
        CHECKS.given("putFor(0, 8, 0)", x, x.putFor(0, 8, 0), 8);
        CHECKS.given("putFor(0, 4, 0): its own place", x, x.putFor(0, 4, 0), 4);
        NightRound held = Told.house(HOUSE + "ring r plain places 2;narrow r 1 by 0;thing a plain in r at 1 size 1");
        CHECKS.given("putFor(0, 1, 1): it can't be", held, held.putFor(0, 1, 1), -2);
        CHECKS.given("putFor(0, 1, 0)", held, held.putFor(0, 1, 0), 1);
    }

    private static void putRefused() {
        CHECKS.promise(25, "NONE: 1; 2.");
        NightRound x = row();
        CHECKS.refused("putFor(4, 0, 0)", x, x.putFor(4, 0, 0), 1);
        CHECKS.refused("putFor(0, 9, 0)", x, x.putFor(0, 9, 0), 1);
        CHECKS.refused("putFor(0, 0, 61)", x, x.putFor(0, 0, 61), 2);
        NightRound small = Told.house(HOUSE + "ring r plain places 9;ring q plain places 2;thing a plain in q at 0 size 1");
        CHECKS.refused("putFor(0, 2, 0): no place of its ring", small, small.putFor(0, 2, 0), 1);
        CHECKS.given("putFor(0, 1, 0)", small, small.putFor(0, 1, 0), 1);
        NightRound none = new NightRound();
        CHECKS.refused("putFor(0, 0, 0) without a house", none, none.putFor(0, 0, 0), 1);
        for (int far : FAR_OFF) {
            CHECKS.refused("putFor(" + far + ", 0, 0)", x, x.putFor(far, 0, 0), 1);
            CHECKS.refused("putFor(0, " + far + ", 0)", x, x.putFor(0, far, 0), 1);
            CHECKS.refused("putFor(0, 0, " + far + ")", x, x.putFor(0, 0, far), 2);
            CHECKS.refused("putFor(4, 0, " + far + "): 1 is named first", x, x.putFor(4, 0, far), 1);
        }
    }

    private static void meetWithin30() {
        CHECKS.promise(26, "HELD so that two MEET just behind so many NIGHTS (0 .. 30), as bits; -2.");
        NightRound x = Told.house(HOUSE + "ring r cellar places 9;ring q plain places 9;door q 3 r 6;door q 0 r 0;"
            + "thing a plain in r at 0 size 1;thing b plain in q at 0 size 1");
        CHECKS.given("holdsToMeet(0, 1, 0): NOW", x, x.holdsToMeet(0, 1, 0), 0);
        CHECKS.given("holdsToMeet(0, 1, 1)", x, x.holdsToMeet(0, 1, 1), 2);
        CHECKS.given("holdsToMeet(0, 1, 9)", x, x.holdsToMeet(0, 1, 9), 1);
        CHECKS.given("holdsToMeet(0, 1, 30)", x, x.holdsToMeet(0, 1, 30), 0);
        CHECKS.given("holdsToMeet(1, 0, 30)", x, x.holdsToMeet(1, 0, 30), 0);
        CHECKS.given("holdsToMeet(0, 1, 29): both", x, x.holdsToMeet(0, 1, 29), 3);
        x.put(0, 0, 1);
        CHECKS.given("holdsToMeet(0, 1, 29): it can't be", x, x.holdsToMeet(0, 1, 29), -2);
        NightRound fewest = Told.house("house cellar 1 damp 0;ring r plain places 9;ring q plain places 9;door r 1 q 5;door r 3 q 3;"
            + "thing a plain in r at 4 size 1;thing b plain in q at 4 size 1;thing c plain in r at 2 size 1;"
            + "thing t plain in r at 0 size 1;thing u plain in q at 0 size 1");
        CHECKS.given("holdsToMeet(3, 4, 5): one ahead of two with less bits", fewest, fewest.holdsToMeet(3, 4, 5), 4);
    }

    private static void meetRefused() {
        CHECKS.promise(26, "NONE: 1 (unlike); 2.");
        NightRound x = row();
        CHECKS.refused("holdsToMeet(0, 0, 0)", x, x.holdsToMeet(0, 0, 0), 1);
        CHECKS.refused("holdsToMeet(3, 3, 0)", x, x.holdsToMeet(3, 3, 0), 1);
        CHECKS.refused("holdsToMeet(0, 4, 0)", x, x.holdsToMeet(0, 4, 0), 1);
        CHECKS.refused("holdsToMeet(4, 0, 0)", x, x.holdsToMeet(4, 0, 0), 1);
        CHECKS.refused("holdsToMeet(0, 1, 31)", x, x.holdsToMeet(0, 1, 31), 2);
        NightRound none = new NightRound();
        CHECKS.refused("holdsToMeet(0, 1, 0) without a house", none, none.holdsToMeet(0, 1, 0), 1);
        for (int far : FAR_OFF) {
            CHECKS.refused("holdsToMeet(" + far + ", 0, 0)", x, x.holdsToMeet(far, 0, 0), 1);
            CHECKS.refused("holdsToMeet(0, " + far + ", 0)", x, x.holdsToMeet(0, far, 0), 1);
            CHECKS.refused("holdsToMeet(0, 1, " + far + ")", x, x.holdsToMeet(0, 1, far), 2);
            CHECKS.refused("holdsToMeet(0, 0, " + far + "): 1 is named first", x, x.holdsToMeet(0, 0, far), 1);
        }
    }
}
