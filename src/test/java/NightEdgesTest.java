/** Terms II, sentence by sentence: the edges of a night, of a meeting, of a first night, of a period. */
public final class NightEdgesTest {
    private static final Checks CHECKS = new Checks("NightEdgesTest");
    private static final String HOUSE = "house cellar 1 damp 0;";

    private NightEdgesTest() {
    }

    public static void main(String[] args) {
        plainRings();
        cellarRings();
        roundTheRing();
        roundTheAttic();
        heldAndBroken();
        pianos();
        narrowPlaces();
        narrowRoundTheRing();
        behindOneThatStays();
        fullRings();
        pets();
        meetings();
        firstNights();
        periods();
        CHECKS.end();
    }

    private static String thing(String name, String kind, int place, int size) {
        return ";thing " + name + " " + kind + " in r at " + place + " size " + size;
    }

    private static NightRound ring(String sort, int places, String more) {
        return Told.house(HOUSE + "ring r " + sort + " places " + places + more);
    }

    private static void plainRings() {
        CHECKS.term("in plain rings each night");
        NightRound x = Told.house("house cellar 5 damp 0;ring r plain places 7" + thing("a", "plain", 0, 1));
        for (int k = 1; k <= 15; k++) {
            CHECKS.due("night() " + k, x.night(), 1);
            CHECKS.due("thing(0, 2)", x.thing(0, 2), k % 7);
        }
        CHECKS.due("steps(0, 200)", x.steps(0, 200), 200);
    }

    private static void cellarRings() {
        CHECKS.term("in cellar ones only if the night's number (that of the one that comes; the first is 1) is a multiple of that told");
        for (int cellar = 1; cellar <= 5; cellar++) {
            NightRound x = Told.house("house cellar " + cellar + " damp 0;ring r cellar places 9" + thing("a", "plain", 0, 1));
            for (int k = 1; k <= 16; k++) {
                int due = k % cellar == 0 ? 1 : 0;
                CHECKS.due("goes() of night " + k + " in a cellar of " + cellar, x.goes(), due);
                CHECKS.due("night() " + k + " in a cellar of " + cellar, x.night(), due);
            }
            CHECKS.due("thing(0, 2)", x.thing(0, 2), 16 / cellar % 9);
        }
    }

    private static void roundTheRing() {
        CHECKS.term("each thing GOES to the next place (from the last one to 0)");
        for (String sort : new String[] {"plain", "cellar"}) {
            for (int places = 2; places <= 9; places++) {
                NightRound x = ring(sort, places, thing("a", "plain", places - 2, 1));
                x.night();
                CHECKS.due("thing(0, 2): the last one", x.thing(0, 2), places - 1);
                x.night();
                CHECKS.due("thing(0, 2) behind the last one", x.thing(0, 2), 0);
                x.night();
                CHECKS.due("thing(0, 2) behind 0", x.thing(0, 2), 1);
                CHECKS.due("thing(0, 1)", x.thing(0, 1), 0);
            }
        }
    }

    private static void roundTheAttic() {
        CHECKS.term("in attic ones to the place ahead (from 0 to the last one)");
        for (int places = 2; places <= 9; places++) {
            NightRound x = Told.house("house cellar 5 damp 0;ring r attic places " + places + thing("a", "plain", 1, 1));
            x.night();
            CHECKS.due("thing(0, 2): the first", x.thing(0, 2), 0);
            x.night();
            CHECKS.due("thing(0, 2) behind 0", x.thing(0, 2), places - 1);
            x.night();
            CHECKS.due("thing(0, 2) behind the last one", x.thing(0, 2), places - 2);
        }
    }

    private static void heldAndBroken() {
        CHECKS.term("It stays if it is held, broken");
        NightRound x = ring("plain", 9, thing("a", "plain", 0, 1) + thing("b", "broken", 3, 1) + thing("c", "pet", 6, 1));
        CHECKS.due("goes()", x.goes(), 5);
        x.hold(0);
        x.hold(2);
        CHECKS.due("goes() of held ones and a broken one", x.goes(), 0);
        CHECKS.due("night()", x.night(), 0);
        x.let(2);
        CHECKS.due("goes() of one let go", x.goes(), 4);
        x.hold(1);
        CHECKS.due("steps(1, 200) of a broken one held", x.steps(1, 200), 0);
        x.let(1);
        CHECKS.due("steps(1, 200) of a broken one", x.steps(1, 200), 0);
    }

    private static void pianos() {
        CHECKS.term("a piano on a night whose number isn't a multiple of 9");
        NightRound x = ring("plain", 9, thing("a", "piano", 0, 1));
        for (int k = 1; k <= 28; k++) {
            CHECKS.due("night() " + k, x.night(), k % 9 == 0 ? 1 : 0);
        }
        NightRound both = Told.house("house cellar 2 damp 0;ring r cellar places 9" + thing("a", "piano", 0, 1));
        for (int k = 1; k <= 37; k++) {
            CHECKS.due("night() " + k + " in a cellar of 2", both.night(), k % 18 == 0 ? 1 : 0);
        }
        NightRound held = ring("plain", 9, thing("a", "piano", 0, 1));
        held.hold(0);
        CHECKS.due("steps(0, 200) of a held piano", held.steps(0, 200), 0);
    }

    private static void narrowPlaces() {
        CHECKS.term("larger than the place it would come to is narrow (places not told of aren't)");
        for (int by = 0; by <= 9; by++) {
            for (int size = 1; size <= 9; size++) {
                NightRound x = ring("plain", 3, ";narrow r 1 by " + by + thing("a", "plain", 0, size));
                CHECKS.due("goes(): " + size + " to a place narrow by " + by, x.goes(), size > by ? 0 : 1);
                CHECKS.due("night()", x.night(), size > by ? 0 : 1);
            }
        }
        NightRound leaves = ring("plain", 3, ";narrow r 1 by 0" + thing("a", "plain", 1, 9));
        CHECKS.due("goes() from a narrow place", leaves.goes(), 1);
        CHECKS.due("steps(0, 200) to places not told of", leaves.steps(0, 200), 2);
    }

    private static void narrowRoundTheRing() {
        CHECKS.term("the place it would come to is narrow");
        NightRound x = ring("plain", 9, ";narrow r 0 by 4" + thing("a", "plain", 8, 5));
        CHECKS.due("goes() from the last one to 0", x.goes(), 0);
        NightRound attic = ring("attic", 9, ";narrow r 8 by 4" + thing("a", "plain", 0, 5));
        CHECKS.due("goes() from 0 to the last one", attic.goes(), 0);
        NightRound past = ring("attic", 9, ";narrow r 1 by 0" + thing("a", "plain", 0, 5));
        CHECKS.due("goes() in an attic, the place behind it narrow", past.goes(), 1);
        NightRound other = Told.house(HOUSE + "ring q plain places 3;ring r plain places 3;narrow q 1 by 0" + thing("a", "plain", 0, 5));
        CHECKS.due("goes() with a like place of another ring narrow", other.goes(), 1);
    }

    private static void behindOneThatStays() {
        CHECKS.term("or if the thing in that place stays");
        String chain = thing("a", "plain", 7, 1) + thing("b", "plain", 8, 1) + thing("c", "plain", 0, 1) + thing("d", "broken", 1, 1);
        NightRound x = ring("plain", 9, chain + thing("e", "plain", 5, 1));
        CHECKS.due("goes(): a row round the ring behind a broken one", x.goes(), 16);
        CHECKS.due("blocked()", x.blocked(), 7);
        NightRound numbers = ring("plain", 9, thing("a", "broken", 6, 1) + thing("b", "plain", 5, 1) + thing("c", "plain", 4, 1)
            + thing("d", "plain", 3, 1) + thing("e", "plain", 2, 1) + thing("f", "plain", 1, 1) + thing("g", "plain", 0, 1));
        CHECKS.due("goes(): seven in a row", numbers.goes(), 0);
        CHECKS.due("blocked(): seven in a row", numbers.blocked(), 126);
        NightRound turned = ring("attic", 9, thing("a", "plain", 6, 1) + thing("b", "plain", 5, 1) + thing("c", "plain", 4, 1)
            + thing("d", "plain", 3, 1) + thing("e", "plain", 2, 1) + thing("f", "plain", 1, 1) + thing("g", "broken", 0, 1));
        CHECKS.due("goes(): seven in a row in an attic", turned.goes(), 0);
        CHECKS.due("blocked(): seven in a row in an attic", turned.blocked(), 63);
        NightRound free = ring("plain", 9, thing("a", "plain", 3, 1) + thing("b", "plain", 4, 1));
        CHECKS.due("goes(): the thing in that place goes", free.goes(), 3);
    }

    private static void fullRings() {
        CHECKS.term("or if the thing in that place stays; pets aren't kept by narrow places.");
        StringBuilder all = new StringBuilder();
        for (int i = 0; i < 7; i++) {
            all.append(thing("" + (char) ('a' + i), "plain", i, 2));
        }
        for (String sort : new String[] {"plain", "cellar", "attic"}) {
            NightRound x = ring(sort, 7, all.toString());
            CHECKS.due("goes() in a full ring, " + sort, x.goes(), 127);
            CHECKS.due("night() in a full ring, " + sort, x.night(), 127);
            CHECKS.due("at(0, 0)", x.at(0, 0), sort.equals("attic") ? 1 : 6);
            x.hold(4);
            CHECKS.due("goes() in a full ring with one held, " + sort, x.goes(), 0);
            CHECKS.due("blocked()", x.blocked(), 127 - 16);
            NightRound narrow = ring(sort, 7, all + ";narrow r 3 by 1");
            CHECKS.due("goes() in a full ring with a narrow place, " + sort, narrow.goes(), 0);
        }
    }

    private static void pets() {
        CHECKS.term("pets aren't kept by narrow places");
        NightRound x = ring("plain", 2, ";narrow r 0 by 0;narrow r 1 by 0" + thing("a", "pet", 0, 9));
        CHECKS.due("steps(0, 200)", x.steps(0, 200), 200);
        x.hold(0);
        CHECKS.due("steps(0, 200) of a held pet", x.steps(0, 200), 0);
        NightRound behind = ring("plain", 3, ";narrow r 1 by 0" + thing("a", "pet", 0, 9) + thing("b", "broken", 1, 1));
        CHECKS.due("goes(): a pet behind one that stays", behind.goes(), 0);
        NightRound cellar = Told.house("house cellar 2 damp 0;ring r cellar places 2" + thing("a", "pet", 0, 9));
        CHECKS.due("steps(0, 9) of a pet in a cellar", cellar.steps(0, 9), 4);
        NightRound others = ring("plain", 9, ";narrow r 1 by 0;narrow r 4 by 0;narrow r 7 by 0" + thing("a", "plain", 0, 1)
            + thing("b", "pet", 3, 1) + thing("c", "broken", 6, 1));
        CHECKS.due("goes(): only the pet", others.goes(), 2);
        NightRound piano = Told.house(HOUSE + "ring r plain places 9;narrow r 1 by 0" + thing("a", "piano", 0, 1));
        CHECKS.due("steps(0, 200): a piano is kept by a narrow place", piano.steps(0, 200), 0);
    }

    private static void meetings() {
        CHECKS.term("Two things MEET if they are in the two places of a door.");
        String rings = HOUSE + "ring r plain places 9;ring q plain places 9;";
        NightRound x = Told.house(rings + "door r 3 q 8;door r 0 r 8;thing a broken in r at 3 size 1;thing b broken in q at 8 size 1");
        CHECKS.due("meeting()", x.meeting(), 1);
        CHECKS.due("meets(0, 1)", x.meets(0, 1), 0);
        CHECKS.due("meets(1, 0)", x.meets(1, 0), 0);
        x.put(1, 1, 3);
        CHECKS.due("meeting(): one at the door", x.meeting(), -2);
        x.put(0, 1, 8);
        x.put(1, 0, 3);
        CHECKS.due("meeting(): turned", x.meeting(), 1);
        x.put(0, 0, 0);
        x.put(1, 0, 8);
        CHECKS.due("meeting() in one ring", x.meeting(), 1);
        x.put(1, 0, 1);
        CHECKS.due("meeting() side by side without a door", x.meeting(), -2);
    }

    /* Each 45th night a piano in a cellar of five goes. */
    private static void firstNights() {
        CHECKS.term("FIRST NIGHT: behind so many NIGHTS (0: NOW), 200 at most, what is held staying so.");
        NightRound x = Told.house("house cellar 5 damp 0;ring r cellar places 9;ring q plain places 2;door r 5 q 0"
            + thing("a", "piano", 0, 1) + ";thing b broken in q at 0 size 1");
        CHECKS.due("when(0, 0, 0): NOW", x.when(0, 0, 0), 0);
        for (int k = 1; k <= 24; k++) {
            x.night();
        }
        CHECKS.due("when(0, 0, 5): behind 201", x.when(0, 0, 5), -2);
        CHECKS.due("meets(0, 1): behind 201", x.meets(0, 1), -2);
        x.night();
        CHECKS.due("when(0, 0, 5): behind 200", x.when(0, 0, 5), 200);
        CHECKS.due("meets(0, 1): behind 200", x.meets(0, 1), 200);
        x.night();
        CHECKS.due("when(0, 0, 5): behind 199", x.when(0, 0, 5), 199);
        x.hold(0);
        CHECKS.due("when(0, 0, 5) of a held one", x.when(0, 0, 5), -2);
        CHECKS.due("meets(0, 1) of a held one", x.meets(0, 1), -2);
        CHECKS.due("still(): nothing goes NOW", x.still(), 0);
    }

    /* Behind 44 nights the piano goes at once; it is back behind 181 and goes again behind 225. */
    private static void periods() {
        CHECKS.term("PERIOD: behind so many NIGHTS (1 .. 200) all things are where they are NOW, the first such.");
        int[] places = {5, 7};
        int[] due = {200, -2};
        for (int i = 0; i < 2; i++) {
            NightRound x = Told.house("house cellar 5 damp 0;ring r cellar places 5;ring a plain places 8;ring b plain places " + places[i]
                + thing("p", "piano", 0, 1) + ";thing x plain in a at 0 size 1;thing y plain in b at 0 size 1");
            for (int k = 0; k < 44; k++) {
                x.night();
            }
            CHECKS.given("period() of 8 times " + places[i], x, x.period(), due[i]);
        }
        NightRound seven = Told.house(HOUSE + "ring r plain places 7" + thing("a", "plain", 3, 1));
        CHECKS.given("period(): the first of 7, 14, ..", seven, seven.period(), 7);
        seven.hold(0);
        CHECKS.given("period(): 1 at least", seven, seven.period(), 1);
        NightRound none = Told.house(HOUSE + "ring r plain places 7");
        CHECKS.given("period() without things", none, none.period(), 1);
    }
}
