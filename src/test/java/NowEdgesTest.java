/** Promises 6 to 13, sentence by sentence: the edges of ring, thing, at, narrow, ahead, goes, blocked, meeting. */
public final class NowEdgesTest {
    private static final Checks CHECKS = new Checks("NowEdgesTest");
    private static final int[] FAR_OFF = {-1, -2, Integer.MIN_VALUE, Integer.MAX_VALUE, 1000};

    private NowEdgesTest() {
    }

    public static void main(String[] args) {
        rings();
        ringsRefused();
        things();
        thingsRefused();
        inPlaces();
        inPlacesRefused();
        narrowPlaces();
        narrowRefused();
        placesAhead();
        aheadRefused();
        whoGoes();
        whoIsBlocked();
        whoMeets();
        withoutHouse();
        CHECKS.end();
    }

    private static String row(String ring, int from, int count, String kind) {
        StringBuilder things = new StringBuilder();
        for (int i = 0; i < count; i++) {
            things.append(";thing t").append((char) ('a' + i)).append(' ').append(kind).append(" in ").append(ring)
                .append(" at ").append(from + i).append(" size 1");
        }
        return things.toString();
    }

    private static NightRound fullAndEmpty() {
        return Told.house("house cellar 2 damp 0;ring r plain places 7;ring q cellar places 9;ring o attic places 2" + row("r", 0, 7, "plain"));
    }

    private static void rings() {
        CHECKS.promise(6, "Of a ring 0 SORT (0 plain, 1 cellar, 2 attic), 1 places, 2 things in it, as bits, 3 places without one.");
        NightRound x = fullAndEmpty();
        int[] places = {7, 9, 2};
        int[] bits = {127, 0, 0};
        int[] left = {0, 9, 2};
        for (int r = 0; r < 3; r++) {
            CHECKS.given("ring(" + r + ", 0)", x, x.ring(r, 0), r);
            CHECKS.given("ring(" + r + ", 1)", x, x.ring(r, 1), places[r]);
            CHECKS.given("ring(" + r + ", 2)", x, x.ring(r, 2), bits[r]);
            CHECKS.given("ring(" + r + ", 3)", x, x.ring(r, 3), left[r]);
        }
        x.put(6, 2, 1);
        x.put(0, 2, 0);
        CHECKS.given("ring(2, 2) NOW", x, x.ring(2, 2), 65);
        CHECKS.given("ring(2, 3) NOW", x, x.ring(2, 3), 0);
        CHECKS.given("ring(0, 2) NOW", x, x.ring(0, 2), 62);
        CHECKS.given("ring(0, 3) NOW", x, x.ring(0, 3), 2);
    }

    private static void ringsRefused() {
        CHECKS.promise(6, "NONE: 1.");
        NightRound x = fullAndEmpty();
        CHECKS.refused("ring(3, 0)", x, x.ring(3, 0), 1);
        CHECKS.refused("ring(4, 0)", x, x.ring(4, 0), 1);
        CHECKS.refused("ring(0, 4)", x, x.ring(0, 4), 1);
        for (int far : FAR_OFF) {
            CHECKS.refused("ring(" + far + ", 0)", x, x.ring(far, 0), 1);
            CHECKS.refused("ring(0, " + far + ")", x, x.ring(0, far), 1);
        }
    }

    private static void things() {
        CHECKS.promise(7, "Of a thing 0 KIND (0 plain, 1 piano, 2 broken, 3 pet), 1 its ring NOW, 2 its place NOW, 3 size, 4 1 if it is held.");
        NightRound x = Told.house(Told.FULLEST);
        int[] kinds = {0, 1, 2, 3, 0, 3, 0};
        int[] rings = {0, 1, 3, 2, 2, 0, 1};
        int[] places = {8, 7, 0, 0, 8, 0, 0};
        int[] sizes = {9, 5, 1, 9, 4, 1, 6};
        for (int t = 0; t < 7; t++) {
            CHECKS.given("thing(" + t + ", 0)", x, x.thing(t, 0), kinds[t]);
            CHECKS.given("thing(" + t + ", 1)", x, x.thing(t, 1), rings[t]);
            CHECKS.given("thing(" + t + ", 2)", x, x.thing(t, 2), places[t]);
            CHECKS.given("thing(" + t + ", 3)", x, x.thing(t, 3), sizes[t]);
            CHECKS.given("thing(" + t + ", 4)", x, x.thing(t, 4), 0);
        }
        x.put(6, 3, 1);
        x.hold(6);
        CHECKS.given("thing(6, 1) NOW", x, x.thing(6, 1), 3);
        CHECKS.given("thing(6, 2) NOW", x, x.thing(6, 2), 1);
        CHECKS.given("thing(6, 4)", x, x.thing(6, 4), 1);
        CHECKS.given("thing(5, 4)", x, x.thing(5, 4), 0);
    }

    private static void thingsRefused() {
        CHECKS.promise(7, "NONE: 1.");
        NightRound x = Told.house(Told.FULLEST);
        CHECKS.refused("thing(7, 0)", x, x.thing(7, 0), 1);
        CHECKS.refused("thing(0, 5)", x, x.thing(0, 5), 1);
        for (int far : FAR_OFF) {
            CHECKS.refused("thing(" + far + ", 0)", x, x.thing(far, 0), 1);
            CHECKS.refused("thing(0, " + far + ")", x, x.thing(0, far), 1);
        }
        NightRound none = Told.house("house cellar 1 damp 0;ring r plain places 2");
        CHECKS.refused("thing(0, 0) of none", none, none.thing(0, 0), 1);
    }

    private static void inPlaces() {
        CHECKS.promise(8, "The thing in a place; -2 none.");
        NightRound x = fullAndEmpty();
        for (int p = 0; p < 7; p++) {
            CHECKS.given("at(0, " + p + ")", x, x.at(0, p), p);
        }
        for (int p = 0; p < 9; p++) {
            CHECKS.given("at(1, " + p + ")", x, x.at(1, p), -2);
        }
        x.put(6, 1, 8);
        CHECKS.given("at(1, 8) NOW", x, x.at(1, 8), 6);
        CHECKS.given("at(0, 6) NOW", x, x.at(0, 6), -2);
    }

    private static void inPlacesRefused() {
        CHECKS.promise(8, "NONE: 1.");
        NightRound x = fullAndEmpty();
        CHECKS.refused("at(0, 7)", x, x.at(0, 7), 1);
        CHECKS.refused("at(1, 9)", x, x.at(1, 9), 1);
        CHECKS.refused("at(2, 2)", x, x.at(2, 2), 1);
        CHECKS.refused("at(3, 0)", x, x.at(3, 0), 1);
        for (int far : FAR_OFF) {
            CHECKS.refused("at(" + far + ", 0)", x, x.at(far, 0), 1);
            CHECKS.refused("at(0, " + far + ")", x, x.at(0, far), 1);
        }
    }

    private static void narrowPlaces() {
        CHECKS.promise(9, "How narrow a place is; -2 it isn't.");
        NightRound x = Told.house("house cellar 1 damp 0;ring r plain places 2;ring q plain places 9;narrow r 1 by 0;narrow q 0 by 9;narrow q 8 by 1");
        CHECKS.given("narrow(0, 0)", x, x.narrow(0, 0), -2);
        CHECKS.given("narrow(0, 1): by 0", x, x.narrow(0, 1), 0);
        CHECKS.given("narrow(1, 0): by 9", x, x.narrow(1, 0), 9);
        CHECKS.given("narrow(1, 1)", x, x.narrow(1, 1), -2);
        CHECKS.given("narrow(1, 8)", x, x.narrow(1, 8), 1);
    }

    private static void narrowRefused() {
        CHECKS.promise(9, "NONE: 1.");
        NightRound x = Told.house("house cellar 1 damp 0;ring r plain places 2;ring q plain places 9;narrow q 0 by 9");
        CHECKS.refused("narrow(0, 2)", x, x.narrow(0, 2), 1);
        CHECKS.refused("narrow(0, 9)", x, x.narrow(0, 9), 1);
        CHECKS.refused("narrow(1, 9)", x, x.narrow(1, 9), 1);
        CHECKS.refused("narrow(2, 0)", x, x.narrow(2, 0), 1);
        for (int far : FAR_OFF) {
            CHECKS.refused("narrow(" + far + ", 0)", x, x.narrow(far, 0), 1);
            CHECKS.refused("narrow(0, " + far + ")", x, x.narrow(0, far), 1);
        }
    }

    private static void placesAhead() {
        CHECKS.promise(10, "The place to which a thing would come in its ring, whether its ring goes tonight or not, whether it stays or not.");
        NightRound x = Told.house(Told.FULLEST);
        int[] ahead = {0, 0, 1, 8, 7, 1, 1};
        for (int t = 0; t < 7; t++) {
            CHECKS.given("ahead(" + t + ")", x, x.ahead(t), ahead[t]);
            x.hold(t);
            CHECKS.given("ahead(" + t + ") of a held one", x, x.ahead(t), ahead[t]);
        }
        x.let(0);
        x.put(0, 2, 1);
        CHECKS.given("ahead(0) in its ring NOW", x, x.ahead(0), 0);
        x.let(4);
        x.put(4, 1, 6);
        CHECKS.given("ahead(4) of a place with a thing", x, x.ahead(4), 7);
        x.put(4, 3, 1);
        CHECKS.given("ahead(4) round a ring of 2", x, x.ahead(4), 0);
    }

    private static void aheadRefused() {
        CHECKS.promise(10, "NONE: 1.");
        NightRound x = Told.house(Told.FULLEST);
        CHECKS.refused("ahead(7)", x, x.ahead(7), 1);
        for (int far : FAR_OFF) {
            CHECKS.refused("ahead(" + far + ")", x, x.ahead(far), 1);
        }
    }

    private static void whoGoes() {
        CHECKS.promise(11, "Things that GO in the NIGHT that comes, as bits.");
        NightRound all = fullAndEmpty();
        CHECKS.given("goes() of all seven", all, all.goes(), 127);
        all.hold(6);
        CHECKS.given("goes() of none", all, all.goes(), 0);
        NightRound empty = Told.house("house cellar 1 damp 0;ring r plain places 2");
        CHECKS.given("goes() without things", empty, empty.goes(), 0);
        NightRound last = Told.house("house cellar 1 damp 0;ring r plain places 9" + row("r", 0, 7, "broken").replace("tg broken", "tg plain"));
        CHECKS.given("goes() of the last alone", last, last.goes(), 64);
        CHECKS.due("size(9): no night has gone by", last.size(9), 0);
    }

    private static void whoIsBlocked() {
        CHECKS.promise(12, "Things that stay in it only because the thing ahead does, as bits.");
        NightRound x = fullAndEmpty();
        CHECKS.given("blocked() of none", x, x.blocked(), 0);
        x.hold(6);
        CHECKS.given("blocked() of all but the held one", x, x.blocked(), 63);
        x.hold(3);
        CHECKS.given("blocked(): a held one stays by itself", x, x.blocked(), 55);
        NightRound broken = Told.house("house cellar 1 damp 0;ring r plain places 9" + row("r", 0, 7, "broken"));
        CHECKS.given("blocked() of broken ones", broken, broken.blocked(), 0);
        NightRound cellar = Told.house("house cellar 2 damp 0;ring r cellar places 9;thing a plain in r at 0 size 1;thing b broken in r at 1 size 1");
        CHECKS.given("blocked() in a ring that doesn't go tonight", cellar, cellar.blocked(), 0);
        cellar.night();
        CHECKS.given("blocked() in a ring that goes", cellar, cellar.blocked(), 1);
        NightRound narrow = Told.house("house cellar 1 damp 0;ring r plain places 9;narrow r 1 by 0;thing a plain in r at 0 size 1;"
            + "thing b broken in r at 1 size 1;thing c pet in r at 8 size 1");
        CHECKS.given("blocked(): one kept by a narrow place stays by itself", narrow, narrow.blocked(), 4);
        NightRound piano = Told.house("house cellar 1 damp 0;ring r plain places 9;thing a piano in r at 0 size 1;thing b broken in r at 1 size 1");
        CHECKS.given("blocked(): a piano stays by itself", piano, piano.blocked(), 0);
        for (int k = 0; k < 8; k++) {
            piano.night();
        }
        CHECKS.given("blocked(): a piano on the ninth night", piano, piano.blocked(), 1);
    }

    private static void whoMeets() {
        CHECKS.promise(13, "Two that MEET NOW: 10 times the lesser and the other one, the first such; -2 none do.");
        String rings = "house cellar 1 damp 0;ring r plain places 9;ring q plain places 9;";
        String things = row("r", 0, 7, "broken").substring(1);
        NightRound last = Told.house(rings + "door r 6 r 5;" + things);
        CHECKS.given("meeting() of the last two", last, last.meeting(), 56);
        NightRound first = Told.house(rings + "door r 6 r 5;door r 2 r 3;door r 6 r 1;door r 1 r 4;" + things);
        CHECKS.given("meeting(): the first by numbers", first, first.meeting(), 14);
        NightRound none = Told.house(rings + "door r 0 q 0;door r 7 r 8;" + things);
        CHECKS.given("meeting() of none", none, none.meeting(), -2);
        NightRound doorless = Told.house(rings + things);
        CHECKS.given("meeting() without doors", doorless, doorless.meeting(), -2);
    }

    private static void withoutHouse() {
        NightRound x = new NightRound();
        CHECKS.promise(11, "NONE: 1 (no HOUSE).");
        CHECKS.refused("goes()", x, x.goes(), 1);
        CHECKS.promise(12, "NONE: 1 (no HOUSE).");
        CHECKS.refused("blocked()", x, x.blocked(), 1);
        CHECKS.promise(13, "NONE: 1 (no HOUSE).");
        CHECKS.refused("meeting()", x, x.meeting(), 1);
    }
}
