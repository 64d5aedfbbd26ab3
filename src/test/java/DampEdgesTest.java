/** DAMP NIGHTS of Terms III, promises 40 to 42, sentence by sentence: the edges of damp, dampSteps, dampWhen. */
public final class DampEdgesTest {
    private static final Checks CHECKS = new Checks("DampEdgesTest");
    private static final String RINGS = ";ring r plain places 9;ring q cellar places 9;";
    private static final String ONE = RINGS + "thing a plain in r at 0 size 1";
    private static final int[] NIGHTS_FAR_OFF = {-1, 61, 62, Integer.MIN_VALUE, Integer.MAX_VALUE};
    private static final int[] SEEDS_FAR_OFF = {-1, 65_537, 65_538, Integer.MIN_VALUE, Integer.MAX_VALUE};

    private DampEdgesTest() {
    }

    public static void main(String[] args) {
        belowDamp();
        byNumbers();
        asNights();
        seeds();
        dampWithin60();
        dampRefused();
        stepsWithin60();
        stepsRefused();
        whenWithin60();
        whenRefused();
        CHECKS.end();
    }

    private static NightRound house(int damp, String rest) {
        return Told.house("house cellar 2 damp " + damp + rest);
    }

    /* By SEED 65,536 each DRAW is 65,536 again: 36 in a hundred. By SEED 0 the first is 74. */
    private static void belowDamp() {
        CHECKS.term("ahead of each a DRAW mod 100 for each thing by numbers: below damp it stays, too");
        CHECKS.due("36 isn't below 36", house(36, ONE).dampSteps(65_536, 1), 1);
        CHECKS.due("36 is below 37", house(37, ONE).dampSteps(65_536, 1), 0);
        CHECKS.due("74 isn't below 74", house(74, ONE).dampSteps(0, 1), 1);
        CHECKS.due("74 is below 75", house(75, ONE).dampSteps(0, 1), 0);
        for (int seed : new int[] {0, 1, 873, 874, 65_535, 65_536}) {
            CHECKS.due("nothing is below 0", house(0, ONE).dampSteps(seed, 60), 60);
            CHECKS.due("all are below 100", house(100, ONE).dampSteps(seed, 60), 0);
        }
        /* 75 times 43,690 and 74 is 3,276,824, which is 65,511 mod 65,537. */
        CHECKS.due("a DRAW of 11", house(11, ONE).dampSteps(43_690, 1), 1);
        CHECKS.due("a DRAW of 11", house(12, ONE).dampSteps(43_690, 1), 0);
    }

    /* By SEED 0 the draws are 74, 24, 52, 90, 41, 9 mod 100. */
    private static void byNumbers() {
        CHECKS.term("for each thing by numbers");
        NightRound x = house(50, RINGS + "thing a plain in r at 0 size 1;thing b plain in r at 3 size 1;thing c plain in r at 6 size 1");
        int[] first = {1, 3, 7};
        int[] second = {2, 3, 7};
        for (int t = 0; t < 3; t++) {
            CHECKS.given("damp(" + t + ", 0, 1)", x, x.damp(t, 0, 1), first[t]);
            CHECKS.given("damp(" + t + ", 0, 2)", x, x.damp(t, 0, 2), second[t]);
        }
        x.hold(0);
        CHECKS.given("damp(1, 0, 1): a held one draws too", x, x.damp(1, 0, 1), 3);
        CHECKS.given("damp(2, 0, 1): a held one draws too", x, x.damp(2, 0, 1), 7);
        NightRound none = house(50, ";ring r plain places 2");
        CHECKS.given("dampSteps(0, 60) without things", none, none.dampSteps(0, 60), 0);
    }

    private static void asNights() {
        CHECKS.term("DAMP NIGHTS by a SEED: as NIGHTS");
        NightRound x = house(0, RINGS + "thing a plain in q at 0 size 1;thing b broken in r at 3 size 1;thing c plain in r at 0 size 1;thing d piano in q at 4 size 1");
        for (int n : new int[] {0, 1, 2, 3, 9, 18, 59, 60}) {
            for (int t = 0; t < 4; t++) {
                CHECKS.given("damp(" + t + ", 5, " + n + ") without damp", x, x.damp(t, 5, n), x.behind(t, n));
            }
        }
        x.night();
        CHECKS.given("damp(0, 5, 1): night 2 in a cellar of 2", x, x.damp(0, 5, 1), 11);
        NightRound behind = house(37, RINGS + "thing a plain in r at 0 size 1;thing b broken in r at 1 size 1");
        CHECKS.given("dampSteps(0, 60) behind one that stays", behind, behind.dampSteps(0, 60), 0);
        /* The first draws 74 and goes; the second draws 24 and stays; the third draws 52 but is behind it. */
        NightRound chain = house(50, RINGS + "thing a plain in r at 0 size 1;thing b plain in r at 5 size 1;thing c plain in r at 4 size 1");
        CHECKS.given("damp(2, 0, 1): behind one that stays by damp", chain, chain.damp(2, 0, 1), 4);
        CHECKS.given("dampSteps(0, 1)", chain, chain.dampSteps(0, 1), 1);
        NightRound pet = house(100, RINGS + "thing a pet in r at 0 size 1");
        CHECKS.given("dampSteps(0, 60) of a pet", pet, pet.dampSteps(0, 60), 0);
    }

    private static void seeds() {
        CHECKS.term("(SEED becomes (75 times SEED and 74) mod 65,537)");
        int[] mod100 = {74, 24, 52, 90, 41, 9};
        for (int k = 0; k < mod100.length; k++) {
            for (int more = 0; more <= 1; more++) {
                NightRound x = house(mod100[k] + more, ONE);
                int steps = x.dampSteps(0, k + 1) - x.dampSteps(0, k);
                CHECKS.due("damp " + (mod100[k] + more) + ", night " + (k + 1), steps, 1 - more);
            }
        }
        /* 75 times 873 and 74 is 65,549, 12 mod 65,537; 75 times 872 and 74 is 65,474. */
        CHECKS.due("873, damp 12", house(12, ONE).dampSteps(873, 1), 1);
        CHECKS.due("873, damp 13", house(13, ONE).dampSteps(873, 1), 0);
        CHECKS.due("872, damp 74", house(74, ONE).dampSteps(872, 1), 1);
        CHECKS.due("872, damp 75", house(75, ONE).dampSteps(872, 1), 0);
        /* 75 times 65,535 and 74 is 4,915,199, 65,461 mod 65,537. */
        CHECKS.due("65,535, damp 61", house(61, ONE).dampSteps(65_535, 1), 1);
        CHECKS.due("65,535, damp 62", house(62, ONE).dampSteps(65_535, 1), 0);
    }

    private static void dampWithin60() {
        CHECKS.promise(40, "The ring and place of a thing behind n DAMP NIGHTS (0 .. 60) by a SEED (0 .. 65,536), likewise.");
        NightRound x = house(36, RINGS + "thing a plain in q at 8 size 1;thing b plain in r at 0 size 1");
        CHECKS.given("damp(0, 0, 0): NOW", x, x.damp(0, 0, 0), 18);
        CHECKS.given("damp(0, 65536, 0): NOW", x, x.damp(0, 65_536, 0), 18);
        CHECKS.given("damp(0, 65536, 1)", x, x.damp(0, 65_536, 1), 18);
        CHECKS.given("damp(0, 65536, 2): round the ring", x, x.damp(0, 65_536, 2), 10);
        CHECKS.given("damp(1, 65536, 59)", x, x.damp(1, 65_536, 59), 5);
        CHECKS.given("damp(1, 65536, 60)", x, x.damp(1, 65_536, 60), 6);
        CHECKS.due("size(9): only thought of", x.size(9), 0);
    }

    private static void dampRefused() {
        CHECKS.promise(40, "NONE: 1; 2.");
        NightRound x = house(50, ONE);
        NightRound none = new NightRound();
        CHECKS.refused("damp(1, 0, 0)", x, x.damp(1, 0, 0), 1);
        CHECKS.refused("damp(0, 0, 0) without a house", none, none.damp(0, 0, 0), 1);
        for (int far : NIGHTS_FAR_OFF) {
            CHECKS.refused("damp(0, 0, " + far + ")", x, x.damp(0, 0, far), 2);
            CHECKS.refused("damp(1, 0, " + far + "): 1 is named first", x, x.damp(1, 0, far), 1);
        }
        for (int far : SEEDS_FAR_OFF) {
            CHECKS.refused("damp(0, " + far + ", 0)", x, x.damp(0, far, 0), 2);
            CHECKS.refused("damp(" + far + ", 0, 0)", x, x.damp(far, 0, 0), 1);
        }
    }

    private static void stepsWithin60() {
        CHECKS.promise(41, "How many times things GO in them, all counted.");
        NightRound x = house(36, RINGS + "thing a plain in q at 8 size 1;thing b plain in r at 0 size 1;thing c plain in r at 1 size 1");
        CHECKS.given("dampSteps(0, 0)", x, x.dampSteps(0, 0), 0);
        CHECKS.given("dampSteps(65536, 1)", x, x.dampSteps(65_536, 1), 2);
        CHECKS.given("dampSteps(65536, 2)", x, x.dampSteps(65_536, 2), 5);
        CHECKS.given("dampSteps(65536, 59)", x, x.dampSteps(65_536, 59), 147);
        CHECKS.given("dampSteps(65536, 60)", x, x.dampSteps(65_536, 60), 150);
    }

    private static void stepsRefused() {
        CHECKS.promise(41, "NONE: 1 (no HOUSE); 2.");
        NightRound x = house(50, ONE);
        NightRound none = new NightRound();
        CHECKS.refused("dampSteps(0, 0) without a house", none, none.dampSteps(0, 0), 1);
        for (int far : NIGHTS_FAR_OFF) {
            CHECKS.refused("dampSteps(0, " + far + ")", x, x.dampSteps(0, far), 2);
            CHECKS.refused("dampSteps(0, " + far + ") without a house", none, none.dampSteps(0, far), 1);
        }
        for (int far : SEEDS_FAR_OFF) {
            CHECKS.refused("dampSteps(" + far + ", 0)", x, x.dampSteps(far, 0), 2);
        }
    }

    private static void whenWithin60() {
        CHECKS.promise(42, "Behind which of them (1, 2, ..) a thing is in a place of its ring first; 0 behind none.");
        NightRound x = house(36, RINGS + "thing a plain in q at 8 size 1;thing b piano in r at 0 size 1");
        CHECKS.given("dampWhen(0, 8, 65536, 60): NOW isn't one of them, the first is", x, x.dampWhen(0, 8, 65_536, 60), 1);
        CHECKS.given("dampWhen(0, 8, 65536, 0)", x, x.dampWhen(0, 8, 65_536, 0), 0);
        CHECKS.given("dampWhen(0, 0, 65536, 60)", x, x.dampWhen(0, 0, 65_536, 60), 2);
        CHECKS.given("dampWhen(0, 0, 65536, 2)", x, x.dampWhen(0, 0, 65_536, 2), 2);
        CHECKS.given("dampWhen(0, 0, 65536, 1)", x, x.dampWhen(0, 0, 65_536, 1), 0);
        CHECKS.given("dampWhen(1, 6, 65536, 60): behind 54", x, x.dampWhen(1, 6, 65_536, 60), 54);
        CHECKS.given("dampWhen(1, 7, 65536, 60): behind 63", x, x.dampWhen(1, 7, 65_536, 60), 0);
        for (int k = 0; k < 3; k++) {
            x.night();
        }
        CHECKS.given("dampWhen(1, 7, 65536, 60): behind 60", x, x.dampWhen(1, 7, 65_536, 60), 60);
        CHECKS.given("dampWhen(1, 7, 65536, 59)", x, x.dampWhen(1, 7, 65_536, 59), 0);
        NightRound away = house(0, RINGS + "thing a plain in r at 0 size 1");
        CHECKS.given("dampWhen(0, 0, 0, 9): back behind a round", away, away.dampWhen(0, 0, 0, 9), 9);
        CHECKS.given("dampWhen(0, 0, 0, 8)", away, away.dampWhen(0, 0, 0, 8), 0);
    }

    private static void whenRefused() {
        CHECKS.promise(42, "NONE: 1; 2.");
        NightRound x = house(50, ";ring r plain places 9;ring q plain places 2;thing a plain in q at 0 size 1");
        NightRound none = new NightRound();
        CHECKS.refused("dampWhen(1, 0, 0, 0)", x, x.dampWhen(1, 0, 0, 0), 1);
        CHECKS.refused("dampWhen(0, 2, 0, 0): no place of its ring", x, x.dampWhen(0, 2, 0, 0), 1);
        CHECKS.refused("dampWhen(0, 0, 0, 0) without a house", none, none.dampWhen(0, 0, 0, 0), 1);
        for (int far : NIGHTS_FAR_OFF) {
            CHECKS.refused("dampWhen(0, 0, 0, " + far + ")", x, x.dampWhen(0, 0, 0, far), 2);
            CHECKS.refused("dampWhen(0, 2, 0, " + far + "): 1 is named first", x, x.dampWhen(0, 2, 0, far), 1);
        }
        for (int far : SEEDS_FAR_OFF) {
            CHECKS.refused("dampWhen(0, 0, " + far + ", 0)", x, x.dampWhen(0, 0, far, 0), 2);
            CHECKS.refused("dampWhen(" + far + ", 0, 0, 0)", x, x.dampWhen(far, 0, 0, 0), 1);
            CHECKS.refused("dampWhen(0, " + far + ", 0, 0)", x, x.dampWhen(0, far, 0, 0), 1);
        }
    }
}
