/** Promises 27 to 30: pays, best, bestPays, kept. */
public final class WantsTest {
    private static final Checks CHECKS = new Checks("WantsTest");
    private static final String TEXT = HeldTest.TEXT
        + ";want a in r at 1 night 3 pays 20;want b in r at 4 night 2 pays 7;want a in r at 3 night 3 pays 5"
        + ";want d in q at 2 night 1 pays 1;want a in q at 0 night 5 pays 99;want c in r at 4 night 60 pays 3";

    private WantsTest() {
    }

    public static void main(String[] args) {
        asItGoes();
        bestHeld();
        behindNights();
        likeOnes();
        fewestAheadOfBits();
        lastNights();
        wrong();
        CHECKS.end();
    }

    private static void asItGoes() {
        NightRound x = Told.house(TEXT);
        int[] pays = {0, 1, 8, 13, 13, 13};
        for (int n = 0; n < pays.length; n++) {
            CHECKS.given("pays(" + n + ")", x, x.pays(n), pays[n]);
        }
        CHECKS.given("pays(59)", x, x.pays(59), 13);
        CHECKS.given("pays(60)", x, x.pays(60), 16);
        CHECKS.given("kept()", x, x.kept(), 46);
        x.hold(1);
        CHECKS.given("pays(3) with one held", x, x.pays(3), 21);
        CHECKS.given("kept() with one held", x, x.kept(), 9);
    }

    private static void bestHeld() {
        NightRound x = Told.house(TEXT);
        CHECKS.given("best(0)", x, x.best(0), 0);
        CHECKS.given("bestPays(0)", x, x.bestPays(0), 0);
        CHECKS.given("best(2)", x, x.best(2), 0);
        CHECKS.given("bestPays(2)", x, x.bestPays(2), 8);
        CHECKS.given("best(3)", x, x.best(3), 2);
        CHECKS.given("bestPays(3)", x, x.bestPays(3), 21);
        CHECKS.given("best(60)", x, x.best(60), 6);
        CHECKS.given("bestPays(60)", x, x.bestPays(60), 24);
        CHECKS.due("thing(1, 4)", x.thing(1, 4), 0);
        x.hold(1);
        CHECKS.given("best(60), held more", x, x.best(60), 4);
        CHECKS.given("bestPays(60)", x, x.bestPays(60), 24);
        NightRound none = Told.house("house cellar 1 damp 0;ring r plain places 2");
        CHECKS.given("best(60) of none", none, none.best(60), 0);
        CHECKS.given("bestPays(60) of none", none, none.bestPays(60), 0);
        CHECKS.given("kept() of none", none, none.kept(), 0);
    }

    private static void behindNights() {
        NightRound x = Told.house(TEXT);
        x.night();
        CHECKS.given("pays(0)", x, x.pays(0), 0);
        CHECKS.given("pays(1)", x, x.pays(1), 7);
        CHECKS.given("best(2)", x, x.best(2), 1);
        CHECKS.given("bestPays(2)", x, x.bestPays(2), 27);
        CHECKS.given("kept()", x, x.kept(), 38);
        x.night();
        x.night();
        CHECKS.given("pays(56)", x, x.pays(56), 0);
        CHECKS.given("pays(57)", x, x.pays(57), 3);
        x.put(0, 1, 2);
        CHECKS.given("pays(2) for one put in another ring", x, x.pays(2), 99);
    }

    /* Either of two could be held alone, or both: fewest, then least bits. */
    private static void likeOnes() {
        NightRound x = Told.house("house cellar 1 damp 0;ring r plain places 6;thing a plain in r at 3 size 1;"
            + "thing b plain in r at 2 size 1;thing c plain in r at 1 size 1;want c in r at 1 night 4 pays 2");
        CHECKS.given("best(4)", x, x.best(4), 1);
        CHECKS.given("bestPays(4)", x, x.bestPays(4), 2);
        x.put(0, 0, 5);
        CHECKS.given("best(4) with a ahead of none", x, x.best(4), 2);
    }

    /* a and b together pay as much as c alone, and no others pay more: 4, not 3. */
    private static void fewestAheadOfBits() {
        NightRound x = Told.house("house cellar 1 damp 0;ring r plain places 9;thing a plain in r at 5 size 1;"
            + "thing b plain in r at 8 size 1;thing c plain in r at 2 size 1;thing t plain in r at 0 size 1;thing u plain in r at 6 size 1;"
            + "want t in r at 3 night 5 pays 5;want u in r at 7 night 5 pays 5;want t in r at 1 night 5 pays 5;want u in r at 8 night 5 pays 5");
        CHECKS.given("best(5)", x, x.best(5), 4);
        CHECKS.given("bestPays(5)", x, x.bestPays(5), 10);
        CHECKS.given("best(4)", x, x.best(4), 0);
    }

    private static void lastNights() {
        NightRound x = Told.house("house cellar 1 damp 0;ring r plain places 2;thing a plain in r at 0 size 1;"
            + "want a in r at 0 night 60 pays 9;want a in r at 1 night 1 pays 1");
        CHECKS.given("kept()", x, x.kept(), 3);
        for (int i = 0; i < 59; i++) {
            x.night();
        }
        CHECKS.given("pays(1) ahead of the last", x, x.pays(1), 9);
        CHECKS.given("pays(60) ahead of the last", x, x.pays(60), 9);
        x.night();
        CHECKS.given("pays(60) behind the last", x, x.pays(60), 0);
        CHECKS.given("best(60) behind the last", x, x.best(60), 0);
    }

    private static void wrong() {
        NightRound x = Told.house(TEXT);
        CHECKS.refused("pays(61)", x, x.pays(61), 2);
        CHECKS.refused("pays(-1)", x, x.pays(-1), 2);
        CHECKS.refused("best(61)", x, x.best(61), 2);
        CHECKS.refused("best(-1)", x, x.best(-1), 2);
        CHECKS.refused("bestPays(61)", x, x.bestPays(61), 2);
        CHECKS.refused("bestPays(-1)", x, x.bestPays(-1), 2);
        NightRound none = new NightRound();
        CHECKS.refused("pays without a house", none, none.pays(61), 1);
        CHECKS.refused("best without a house", none, none.best(61), 1);
        CHECKS.refused("bestPays without a house", none, none.bestPays(61), 1);
        CHECKS.refused("kept without a house", none, none.kept(), 1);
    }
}
