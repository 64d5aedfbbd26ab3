/** Promises 24 to 26: holds, putFor, holdsToMeet. */
public final class HeldTest {
    static final String TEXT = "house cellar 1 damp 0;ring r plain places 5;ring q plain places 4;door r 0 q 0;"
        + "thing a plain in r at 0 size 1;thing b plain in r at 2 size 1;thing c plain in r at 4 size 1;"
        + "thing d plain in q at 1 size 1";
    private static final Checks CHECKS = new Checks("HeldTest");

    private HeldTest() {
    }

    public static void main(String[] args) {
        heldForPlaces();
        heldWithOthersHeld();
        puts();
        heldToMeet();
        fewestAheadOfBits();
        wrong();
        CHECKS.end();
    }

    private static void heldForPlaces() {
        NightRound x = Told.house(TEXT);
        CHECKS.given("holds(0, 0, 3, 3)", x, x.holds(0, 0, 3, 3), 0);
        CHECKS.given("holds(0, 0, 1, 3)", x, x.holds(0, 0, 1, 3), 2);
        CHECKS.given("holds(0, 0, 0, 3)", x, x.holds(0, 0, 0, 3), 1);
        CHECKS.given("holds(0, 0, 2, 4)", x, x.holds(0, 0, 2, 4), 4);
        CHECKS.given("holds(0, 0, 3, 4)", x, x.holds(0, 0, 3, 4), -2);
        CHECKS.given("holds(0, 0, 0, 0)", x, x.holds(0, 0, 0, 0), 0);
        CHECKS.given("holds(0, 0, 1, 0)", x, x.holds(0, 0, 1, 0), -2);
        CHECKS.given("holds(0, 0, 0, 30)", x, x.holds(0, 0, 0, 30), 0);
        CHECKS.given("holds(0, 1, 0, 3)", x, x.holds(0, 1, 0, 3), -2);
        CHECKS.given("holds(3, 1, 1, 3)", x, x.holds(3, 1, 1, 3), 8);
        CHECKS.due("size(10)", x.size(10), 0);
        CHECKS.due("thing(0, 4)", x.thing(0, 4), 0);
        /* Of like ones the least bits: a stays by its own hold or by that of the one ahead. */
        String alike = "house cellar 1 damp 0;ring r plain places 3;narrow r 0 by 0;"
            + "thing b plain in r at 1 size 1;thing a plain in r at 0 size 1";
        NightRound y = Told.house(alike);
        CHECKS.given("holds(1, 0, 0, 1)", y, y.holds(1, 0, 0, 1), 1);
        CHECKS.given("holds(1, 0, 1, 2)", y, y.holds(1, 0, 1, 2), 0);
    }

    private static void heldWithOthersHeld() {
        NightRound x = Told.house(TEXT);
        x.hold(1);
        CHECKS.given("holds(0, 0, 1, 3)", x, x.holds(0, 0, 1, 3), 0);
        CHECKS.given("holds(0, 0, 0, 3)", x, x.holds(0, 0, 0, 3), 1);
        CHECKS.given("holds(0, 0, 3, 3)", x, x.holds(0, 0, 3, 3), -2);
        CHECKS.given("holds(2, 0, 4, 3) by the one ahead", x, x.holds(2, 0, 4, 3), 1);
        /* Two must be held: b keeps a at 1, and so c at 0, unless it is held at 4. */
        NightRound two = Told.house(TEXT.replace("door r 0 q 0", "door r 1 r 4"));
        CHECKS.given("holdsToMeet(0, 2, 9)", two, two.holdsToMeet(0, 2, 9), 6);
        two.hold(2);
        CHECKS.given("holdsToMeet(0, 2, 9) with one held", two, two.holdsToMeet(0, 2, 9), 2);
    }

    private static void puts() {
        NightRound x = Told.house(TEXT);
        CHECKS.given("putFor(0, 3, 2)", x, x.putFor(0, 3, 2), 1);
        CHECKS.given("putFor(0, 2, 2)", x, x.putFor(0, 2, 2), 0);
        CHECKS.given("putFor(0, 4, 2)", x, x.putFor(0, 4, 2), -2);
        CHECKS.given("putFor(0, 0, 0)", x, x.putFor(0, 0, 0), 0);
        CHECKS.given("putFor(0, 3, 0)", x, x.putFor(0, 3, 0), 3);
        CHECKS.given("putFor(0, 1, 60)", x, x.putFor(0, 1, 60), 1);
        CHECKS.given("putFor(3, 3, 5)", x, x.putFor(3, 3, 5), 2);
        CHECKS.due("thing(0, 2)", x.thing(0, 2), 0);
        x.hold(1);
        CHECKS.given("putFor(0, 1, 5)", x, x.putFor(0, 1, 5), 0);
        x.hold(0);
        CHECKS.given("putFor(0, 3, 60) of a held one", x, x.putFor(0, 3, 60), 3);
        CHECKS.given("putFor(0, 0, 5) of a held one", x, x.putFor(0, 0, 5), 0);
        CHECKS.given("putFor(0, 2, 9) where another is", x, x.putFor(0, 2, 9), -2);
        NightRound other = Told.house(TEXT);
        CHECKS.given("putFor(1, 2, 2) where the first thing is", other, other.putFor(1, 2, 2), -2);
        CHECKS.given("putFor(1, 3, 0), none is left behind", other, other.putFor(1, 3, 0), 3);
        other.hold(1);
        CHECKS.given("putFor(0, 3, 5) past a held one", other, other.putFor(0, 3, 5), -2);
        NightRound ring = Told.house("house cellar 1 damp 0;ring r plain places 4;thing a plain in r at 0 size 1;"
            + "thing b plain in r at 3 size 1;thing c plain in r at 1 size 1;narrow r 3 by 0");
        CHECKS.given("putFor(0, 2, 2), its own place is left", ring, ring.putFor(0, 2, 2), 2);
        CHECKS.given("putFor(1, 2, 2), it is in front where it is put", ring, ring.putFor(1, 2, 2), 2);
        CHECKS.given("putFor(1, 0, 2)", ring, ring.putFor(1, 0, 2), 3);
        NightRound moved = Told.house(TEXT);
        moved.put(0, 1, 3);
        CHECKS.given("putFor(0, 2, 0) in its ring NOW", moved, moved.putFor(0, 2, 0), 2);
        CHECKS.refused("putFor(0, 4, 0) in its ring NOW", moved, moved.putFor(0, 4, 0), 1);
    }

    private static void heldToMeet() {
        NightRound x = Told.house(TEXT);
        CHECKS.given("holdsToMeet(0, 3, 15)", x, x.holdsToMeet(0, 3, 15), 0);
        CHECKS.given("holdsToMeet(0, 3, 3)", x, x.holdsToMeet(0, 3, 3), 1);
        CHECKS.given("holdsToMeet(3, 0, 3)", x, x.holdsToMeet(3, 0, 3), 1);
        CHECKS.given("holdsToMeet(0, 3, 0)", x, x.holdsToMeet(0, 3, 0), -2);
        CHECKS.given("holdsToMeet(0, 3, 20)", x, x.holdsToMeet(0, 3, 20), -2);
        CHECKS.given("holdsToMeet(0, 1, 9)", x, x.holdsToMeet(0, 1, 9), -2);
        x.put(3, 1, 0);
        CHECKS.given("holdsToMeet(0, 3, 0)", x, x.holdsToMeet(0, 3, 0), 0);
        CHECKS.given("holdsToMeet(0, 3, 30) with a hold", x, x.holdsToMeet(0, 3, 30), 8);
    }

    /* c alone brings t to the first door in time, a and b together bring both to the second: 4, not 3. */
    private static void fewestAheadOfBits() {
        NightRound x = Told.house("house cellar 1 damp 0;ring r plain places 9;ring q plain places 9;door r 1 q 5;door r 3 q 3;"
            + "thing a plain in r at 5 size 1;thing b plain in q at 4 size 1;thing c plain in r at 2 size 1;"
            + "thing t plain in r at 0 size 1;thing u plain in q at 0 size 1");
        CHECKS.given("holdsToMeet(3, 4, 5)", x, x.holdsToMeet(3, 4, 5), 4);
        x.put(2, 0, 8);
        CHECKS.given("holdsToMeet(3, 4, 5) without c ahead", x, x.holdsToMeet(3, 4, 5), -2);
        x.put(0, 0, 4);
        CHECKS.given("holdsToMeet(3, 4, 5) by two", x, x.holdsToMeet(3, 4, 5), 3);
    }

    private static void wrong() {
        NightRound x = Told.house(TEXT);
        CHECKS.refused("holds(0, 0, 0, 31)", x, x.holds(0, 0, 0, 31), 2);
        CHECKS.refused("holds(0, 0, 0, -1)", x, x.holds(0, 0, 0, -1), 2);
        CHECKS.refused("holds(0, 0, 5, 31)", x, x.holds(0, 0, 5, 31), 1);
        CHECKS.refused("holds(4, 0, 0, 1)", x, x.holds(4, 0, 0, 1), 1);
        CHECKS.refused("holds(0, 2, 0, 1)", x, x.holds(0, 2, 0, 1), 1);
        CHECKS.refused("putFor(0, 0, 61)", x, x.putFor(0, 0, 61), 2);
        CHECKS.refused("putFor(0, 0, -1)", x, x.putFor(0, 0, -1), 2);
        CHECKS.refused("putFor(0, 5, 61)", x, x.putFor(0, 5, 61), 1);
        CHECKS.refused("putFor(0, -1, 0)", x, x.putFor(0, -1, 0), 1);
        CHECKS.refused("putFor(4, 0, 0)", x, x.putFor(4, 0, 0), 1);
        CHECKS.refused("putFor(3, 4, 0)", x, x.putFor(3, 4, 0), 1);
        CHECKS.refused("holdsToMeet(0, 3, 31)", x, x.holdsToMeet(0, 3, 31), 2);
        CHECKS.refused("holdsToMeet(0, 3, -1)", x, x.holdsToMeet(0, 3, -1), 2);
        CHECKS.refused("holdsToMeet(0, 0, 31)", x, x.holdsToMeet(0, 0, 31), 1);
        CHECKS.refused("holdsToMeet(0, 4, 1)", x, x.holdsToMeet(0, 4, 1), 1);
        NightRound none = new NightRound();
        CHECKS.refused("holds without a house", none, none.holds(0, 0, 0, 31), 1);
        CHECKS.refused("putFor without a house", none, none.putFor(0, 0, 61), 1);
        CHECKS.refused("holdsToMeet without a house", none, none.holdsToMeet(0, 1, 31), 1);
    }
}
