/** Promises 40 to 42: damp, dampSteps, dampWhen. */
public final class DampTest {
    private static final Checks CHECKS = new Checks("DampTest");
    private static final String RING = ";ring q cellar places 2;ring r plain places 9;";
    private static final String ONE = RING + "thing a plain in r at 0 size 1";

    private DampTest() {
    }

    public static void main(String[] args) {
        draws();
        twoThings();
        edgesOfDamp();
        firstTimes();
        wrong();
        CHECKS.end();
    }

    /* By seed 0 the draws are 74, 5,624, 28,652, 51,790, 17,641, 12,409. */
    private static void draws() {
        NightRound x = Told.house("house cellar 1 damp 50" + ONE);
        int[] places = {0, 1, 1, 2, 3, 3, 3};
        int[] steps = {0, 1, 1, 2, 3, 3, 3};
        for (int n = 0; n < places.length; n++) {
            CHECKS.given("damp(0, 0, " + n + ")", x, x.damp(0, 0, n), 10 + places[n]);
            CHECKS.given("dampSteps(0, " + n + ")", x, x.dampSteps(0, n), steps[n]);
        }
        CHECKS.given("damp(0, 74, 1)", x, x.damp(0, 74, 1), 10);
        CHECKS.given("size(9)", x, x.size(9), 0);
    }

    private static void twoThings() {
        NightRound x = Told.house("house cellar 1 damp 50" + RING + "thing a plain in r at 3 size 1;thing b plain in r at 2 size 1");
        CHECKS.given("damp(0, 0, 1)", x, x.damp(0, 0, 1), 14);
        CHECKS.given("damp(1, 0, 1)", x, x.damp(1, 0, 1), 12);
        CHECKS.given("damp(1, 0, 2)", x, x.damp(1, 0, 2), 13);
        CHECKS.given("dampSteps(0, 3)", x, x.dampSteps(0, 3), 3);
        NightRound y = Told.house("house cellar 1 damp 50" + RING + "thing a plain in r at 2 size 1;thing b plain in r at 3 size 1");
        CHECKS.given("damp(0, 0, 1) behind a damp one", y, y.damp(0, 0, 1), 12);
        CHECKS.given("damp(0, 0, 2)", y, y.damp(0, 0, 2), 13);
        CHECKS.given("dampSteps(0, 2)", y, y.dampSteps(0, 2), 2);
        NightRound held = Told.house("house cellar 1 damp 50" + RING + "thing a broken in q at 0 size 1;thing b plain in r at 2 size 1");
        CHECKS.given("damp(1, 0, 1), the broken one draws too", held, held.damp(1, 0, 1), 12);
        CHECKS.given("damp(1, 0, 2)", held, held.damp(1, 0, 2), 13);
    }

    private static void edgesOfDamp() {
        NightRound never = Told.house("house cellar 1 damp 0" + ONE);
        CHECKS.given("damp(0, 7, 60)", never, never.damp(0, 7, 60), 16);
        CHECKS.given("dampSteps(7, 60)", never, never.dampSteps(7, 60), 60);
        NightRound always = Told.house("house cellar 1 damp 100" + ONE);
        CHECKS.given("dampSteps(7, 60)", always, always.dampSteps(7, 60), 0);
        /* By seed 65,536 each draw is 65,536 again. */
        NightRound at36 = Told.house("house cellar 1 damp 36" + ONE);
        CHECKS.given("dampSteps(65536, 60)", at36, at36.dampSteps(65_536, 60), 60);
        NightRound at37 = Told.house("house cellar 1 damp 37" + ONE);
        CHECKS.given("dampSteps(65536, 60)", at37, at37.dampSteps(65_536, 60), 0);
        NightRound cellar = Told.house("house cellar 3 damp 0" + RING + "thing a plain in q at 0 size 1");
        CHECKS.given("dampSteps(1, 60) in a cellar", cellar, cellar.dampSteps(1, 60), 20);
        cellar.night();
        CHECKS.given("damp(0, 1, 2) behind a night", cellar, cellar.damp(0, 1, 2), 1);
        cellar.hold(0);
        CHECKS.given("dampSteps(1, 60) held", cellar, cellar.dampSteps(1, 60), 0);
    }

    private static void firstTimes() {
        NightRound x = Told.house("house cellar 1 damp 50" + ONE);
        CHECKS.given("dampWhen(0, 1, 0, 60)", x, x.dampWhen(0, 1, 0, 60), 1);
        CHECKS.given("dampWhen(0, 2, 0, 60)", x, x.dampWhen(0, 2, 0, 60), 3);
        CHECKS.given("dampWhen(0, 3, 0, 4)", x, x.dampWhen(0, 3, 0, 4), 4);
        CHECKS.given("dampWhen(0, 3, 0, 3)", x, x.dampWhen(0, 3, 0, 3), 0);
        CHECKS.given("dampWhen(0, 0, 0, 3) where it is", x, x.dampWhen(0, 0, 0, 3), 0);
        CHECKS.given("dampWhen(0, 0, 65536, 3) where it stays", x, x.dampWhen(0, 0, 65_536, 3), 1);
        CHECKS.given("dampWhen(0, 0, 65536, 0)", x, x.dampWhen(0, 0, 65_536, 0), 0);
    }

    private static void wrong() {
        NightRound x = Told.house("house cellar 1 damp 50" + ONE);
        CHECKS.refused("damp(1, 0, 0)", x, x.damp(1, 0, 0), 1);
        CHECKS.refused("damp(-1, -1, 0)", x, x.damp(-1, -1, 0), 1);
        CHECKS.refused("damp(0, -1, 0)", x, x.damp(0, -1, 0), 2);
        CHECKS.refused("damp(0, 65537, 0)", x, x.damp(0, 65_537, 0), 2);
        CHECKS.refused("damp(0, 0, -1)", x, x.damp(0, 0, -1), 2);
        CHECKS.refused("damp(0, 0, 61)", x, x.damp(0, 0, 61), 2);
        CHECKS.refused("dampSteps(-1, 0)", x, x.dampSteps(-1, 0), 2);
        CHECKS.refused("dampSteps(65537, 0)", x, x.dampSteps(65_537, 0), 2);
        CHECKS.refused("dampSteps(0, -1)", x, x.dampSteps(0, -1), 2);
        CHECKS.refused("dampSteps(0, 61)", x, x.dampSteps(0, 61), 2);
        CHECKS.refused("dampWhen(1, 0, 0, 0)", x, x.dampWhen(1, 0, 0, 0), 1);
        CHECKS.refused("dampWhen(0, 9, 0, 61)", x, x.dampWhen(0, 9, 0, 61), 1);
        CHECKS.refused("dampWhen(0, -1, 0, 0)", x, x.dampWhen(0, -1, 0, 0), 1);
        CHECKS.refused("dampWhen(0, 0, -1, 0)", x, x.dampWhen(0, 0, -1, 0), 2);
        CHECKS.refused("dampWhen(0, 0, 65537, 0)", x, x.dampWhen(0, 0, 65_537, 0), 2);
        CHECKS.refused("dampWhen(0, 0, 0, -1)", x, x.dampWhen(0, 0, 0, -1), 2);
        CHECKS.refused("dampWhen(0, 0, 0, 61)", x, x.dampWhen(0, 0, 0, 61), 2);
        NightRound none = new NightRound();
        CHECKS.refused("damp without a house", none, none.damp(0, -1, 0), 1);
        CHECKS.refused("dampSteps without a house", none, none.dampSteps(-1, 0), 1);
        CHECKS.refused("dampWhen without a house", none, none.dampWhen(0, 0, -1, 0), 1);
    }
}
