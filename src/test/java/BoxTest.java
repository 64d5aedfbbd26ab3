/** Promises 31 to 36: rules, ruleAt, there, surely, look, lookLeaves. */
public final class BoxTest {
    private static final Checks CHECKS = new Checks("BoxTest");
    private static final String START = "house cellar 1 damp 0;ring r plain places 2;";

    private BoxTest() {
    }

    public static void main(String[] args) {
        allRules();
        oneByOne();
        oneRule();
        noRules();
        lostOnes();
        stepsAside();
        wrong();
        CHECKS.end();
    }

    private static void allRules() {
        NightRound x = Told.house("house cellar 1 damp 0;ring r plain places 2");
        CHECKS.given("rules()", x, x.rules(), 572);
        CHECKS.given("ruleAt(0)", x, x.ruleAt(0), 20_100);
        CHECKS.given("ruleAt(1)", x, x.ruleAt(1), 20_101);
        CHECKS.given("ruleAt(2)", x, x.ruleAt(2), 30_100);
        CHECKS.given("ruleAt(5)", x, x.ruleAt(5), 30_200);
        CHECKS.given("ruleAt(571)", x, x.ruleAt(571), 121_111);
        CHECKS.refused("ruleAt(572)", x, x.ruleAt(572), 1);
        CHECKS.refused("ruleAt(-1)", x, x.ruleAt(-1), 1);
        CHECKS.given("there(0, 11)", x, x.there(0, 11), 11);
    }

    private static void oneByOne() {
        NightRound x = Told.house(START + "found 0 at 0;found 1 at 1");
        CHECKS.given("rules()", x, x.rules(), 11);
        CHECKS.given("ruleAt(0)", x, x.ruleAt(0), 20_100);
        CHECKS.given("ruleAt(10)", x, x.ruleAt(10), 120_100);
        CHECKS.given("there(2, 0)", x, x.there(2, 0), 1);
        CHECKS.given("there(2, 2)", x, x.there(2, 2), 10);
        CHECKS.given("there(99, 3)", x, x.there(99, 3), 4);
        CHECKS.given("surely(0)", x, x.surely(0), 0);
        CHECKS.given("surely(1)", x, x.surely(1), -2);
        CHECKS.given("look()", x, x.look(), 606);
        CHECKS.given("lookLeaves()", x, x.lookLeaves(), 6);
        x.night();
        CHECKS.given("look() behind a night", x, x.look(), 606);
        Told.tell(x, START + "found 0 at 0;found 1 at 11");
        CHECKS.given("look() of a new house", x, x.look(), 0);
        CHECKS.given("lookLeaves() of a new house", x, x.lookLeaves(), 1);
        CHECKS.given("rules() of a new house", x, x.rules(), 1);
    }

    private static void oneRule() {
        NightRound x = Told.house(START + "found 1 at 11;found 0 at 0");
        CHECKS.given("ruleAt(0)", x, x.ruleAt(0), 121_100);
        CHECKS.given("surely(0)", x, x.surely(0), 0);
        CHECKS.given("surely(1)", x, x.surely(1), 12);
        CHECKS.given("surely(13)", x, x.surely(13), 24);
        CHECKS.given("surely(96)", x, x.surely(96), 96);
        CHECKS.given("surely(97)", x, x.surely(97), -2);
        CHECKS.given("there(5, 7)", x, x.there(5, 7), 1);
        CHECKS.given("there(5, 6)", x, x.there(5, 6), 0);
        NightRound last = Told.house(START + "found 99 at 0;found 98 at 11");
        CHECKS.given("rules()", last, last.rules(), 1);
        CHECKS.given("surely(99)", last, last.surely(99), 99);
    }

    private static void noRules() {
        NightRound x = Told.house(START + "found 0 at 3;found 1 at 3");
        CHECKS.given("rules()", x, x.rules(), 0);
        CHECKS.refused("ruleAt(0)", x, x.ruleAt(0), 1);
        CHECKS.given("there(0, 3)", x, x.there(0, 3), 0);
        CHECKS.given("surely(0)", x, x.surely(0), -2);
        CHECKS.given("look()", x, x.look(), -2);
        CHECKS.given("lookLeaves()", x, x.lookLeaves(), -2);
    }

    private static void lostOnes() {
        NightRound x = Told.house(START + "lost 0 at 11");
        CHECKS.given("rules()", x, x.rules(), 561);
        CHECKS.given("there(0, 11)", x, x.there(0, 11), 0);
        NightRound y = Told.house(START + "lost 0 at 0");
        CHECKS.given("rules()", y, y.rules(), 506);
        CHECKS.given("ruleAt(0)", y, y.ruleAt(0), 20_101);
        CHECKS.given("surely(0)", y, y.surely(0), -2);
    }

    private static void stepsAside() {
        NightRound x = Told.house(START + "found 3 at 0;found 1 at 3;lost 2 at 4");
        CHECKS.given("rules()", x, x.rules(), 3);
        CHECKS.given("ruleAt(0)", x, x.ruleAt(0), 70_201);
        CHECKS.given("ruleAt(1)", x, x.ruleAt(1), 90_300);
        CHECKS.given("ruleAt(2)", x, x.ruleAt(2), 110_410);
        CHECKS.given("surely(0)", x, x.surely(0), 3);
        CHECKS.given("surely(4)", x, x.surely(4), -2);
        CHECKS.given("look()", x, x.look(), 0);
        CHECKS.given("lookLeaves()", x, x.lookLeaves(), 2);
    }

    private static void wrong() {
        NightRound x = Told.house(START + "found 0 at 0");
        CHECKS.refused("there(-1, 0)", x, x.there(-1, 0), 2);
        CHECKS.refused("there(100, 0)", x, x.there(100, 0), 2);
        CHECKS.refused("there(0, -1)", x, x.there(0, -1), 2);
        CHECKS.refused("there(0, 12)", x, x.there(0, 12), 2);
        CHECKS.refused("surely(-1)", x, x.surely(-1), 2);
        CHECKS.refused("surely(100)", x, x.surely(100), 2);
        NightRound none = new NightRound();
        CHECKS.refused("rules without a house", none, none.rules(), 1);
        CHECKS.refused("ruleAt without a house", none, none.ruleAt(0), 1);
        CHECKS.refused("there without a house", none, none.there(100, 0), 1);
        CHECKS.refused("surely without a house", none, none.surely(100), 1);
        CHECKS.refused("look without a house", none, none.look(), 1);
        CHECKS.refused("lookLeaves without a house", none, none.lookLeaves(), 1);
    }
}
