/** RULES, SURELY, LOOK of Terms III, promises 31 to 36, sentence by sentence: the edges of the box. */
public final class BoxEdgesTest {
    private static final Checks CHECKS = new Checks("BoxEdgesTest");
    private static final String HOUSE = "house cellar 1 damp 0;ring r plain places 2";
    private static final int[] FAR_OFF = {-1, 100, 101, Integer.MIN_VALUE, Integer.MAX_VALUE};

    private BoxEdgesTest() {
    }

    public static void main(String[] args) {
        allRules();
        foundAndLost();
        sure();
        looks();
        looksUpTo99();
        counts();
        rows();
        howManyThere();
        thereRefused();
        surelyUpTo99();
        surelyRefused();
        looking();
        CHECKS.end();
    }

    private static NightRound box(String... marks) {
        StringBuilder text = new StringBuilder(HOUSE);
        for (String mark : marks) {
            text.append(';').append(mark);
        }
        return Told.house(text.toString());
    }

    private static void allRules() {
        CHECKS.term("RULES of the box: places 2 .. 12 in its ring, by 1 to places less 1 each night, from a place on night 0");
        NightRound x = box();
        int first = 0;
        for (int places = 2; places <= 12; places++) {
            int last = first + places * (places - 1) - 1;
            CHECKS.given("ruleAt(" + first + "): the first of " + places + " places", x, x.ruleAt(first), 10_000 * places + 100);
            CHECKS.given("ruleAt(" + last + "): the last of " + places + " places", x, x.ruleAt(last), 10_000 * places + 101 * (places - 1));
            first = last + 1;
        }
        CHECKS.due("rules of 2 .. 12 places", first, 572);
        CHECKS.given("rules()", x, x.rules(), 572);
    }

    private static void foundAndLost() {
        CHECKS.term("all by which it is at the place told on nights found, isn't on nights lost");
        CHECKS.due("found 0 at 0", box("found 0 at 0").rules(), 66);
        CHECKS.due("found 0 at 1", box("found 0 at 1").rules(), 66);
        CHECKS.due("found 0 at 2", box("found 0 at 2").rules(), 65);
        CHECKS.due("found 0 at 11: 12 places alone", box("found 0 at 11").rules(), 11);
        CHECKS.due("lost 0 at 0", box("lost 0 at 0").rules(), 506);
        CHECKS.due("lost 0 at 11: 12 places alone", box("lost 0 at 11").rules(), 561);
        CHECKS.due("found 99 at 11", box("found 99 at 11").rules(), 11);
        CHECKS.due("lost 99 at 11", box("lost 99 at 11").rules(), 561);
        NightRound one = box("found 99 at 11", "found 98 at 10");
        CHECKS.due("one by one from 8 on", one.rules(), 1);
        CHECKS.due("the one", one.ruleAt(0), 120_108);
        CHECKS.due("six lost", box("lost 0 at 0", "lost 1 at 0", "lost 2 at 0", "lost 3 at 0", "lost 4 at 0", "lost 5 at 11").rules() < 506, true);
    }

    private static void sure() {
        CHECKS.term("SURELY it is at place 0 on a night if it is by all of them.");
        NightRound x = box("found 3 at 0", "found 1 at 3", "lost 2 at 4");
        CHECKS.given("surely(0)", x, x.surely(0), 3);
        CHECKS.given("surely(3)", x, x.surely(3), 3);
        CHECKS.given("surely(4)", x, x.surely(4), -2);
        CHECKS.given("there(3, 0)", x, x.there(3, 0), 3);
        /* Of two rules one is there on multiples of 11, one on multiples of 12. */
        NightRound two = box("found 10 at 10", "found 9 at 9");
        CHECKS.given("rules()", two, two.rules(), 2);
        CHECKS.given("surely(0)", two, two.surely(0), 0);
        CHECKS.given("surely(1): by one of two isn't enough", two, two.surely(1), -2);
    }

    /* The two go alike up to night 10; on night 11 one is at 0, one at 11. */
    private static void looks() {
        CHECKS.term("LOOK: the night (0 .. 99), the place (0 .. 11), by which, it being told whether it is there, at most fewest RULES are left, "
            + "the first such by nights, places.");
        NightRound two = box("found 10 at 10", "found 9 at 9");
        CHECKS.given("look(): the first night, the first place", two, two.look(), 1100);
        CHECKS.given("lookLeaves()", two, two.lookLeaves(), 1);
        NightRound one = box("found 99 at 11", "found 98 at 10");
        CHECKS.given("look() by one rule: the first of all", one, one.look(), 0);
        CHECKS.given("lookLeaves()", one, one.lookLeaves(), 1);
        NightRound all = box();
        CHECKS.given("look() by all rules", all, all.look(), 0);
        CHECKS.given("lookLeaves(): 506 if it isn't there, 66 if it is", all, all.lookLeaves(), 506);
        /* From place 11 of 12: on night 6 the six odd steps are at 5, the five even ones at 11; ahead of it 7 are left at least. */
        NightRound far = box("found 0 at 11");
        CHECKS.given("look(): the lesser place", far, far.look(), 605);
        CHECKS.given("lookLeaves()", far, far.lookLeaves(), 6);
        /* The even steps alone: apart on night 1; on night 2 two are at 3, two at 7, one at 11; on night 3 it isn't better. */
        NightRound even = box("found 0 at 11", "found 6 at 11");
        CHECKS.given("rules()", even, even.rules(), 5);
        CHECKS.given("look(): the lesser night", even, even.look(), 203);
        CHECKS.given("lookLeaves()", even, even.lookLeaves(), 3);
    }

    /* Worked out apart from the class: of 36 rules 18 are at 8 on night 99 first; of 37 on night 100 less are left than ever before. */
    private static void looksUpTo99() {
        CHECKS.term("LOOK: the night (0 .. 99), the place (0 .. 11)");
        NightRound last = box("lost 52 at 3", "found 0 at 8");
        CHECKS.given("look(): the last night", last, last.look(), 9908);
        CHECKS.given("lookLeaves()", last, last.lookLeaves(), 18);
        NightRound late = box("lost 82 at 10", "found 1 at 8");
        CHECKS.given("look(): night 100 is too late", late, late.look(), 3708);
        CHECKS.given("lookLeaves()", late, late.lookLeaves(), 20);
        Told.tell(late, HOUSE + ";found 10 at 10;found 9 at 9");
        CHECKS.given("look() of a new house", late, late.look(), 1100);
        CHECKS.given("lookLeaves() of a new house", late, late.lookLeaves(), 1);
    }

    private static void counts() {
        CHECKS.promise(31, "RULES: how many.");
        CHECKS.due("all", box().rules(), 572);
        NightRound none = box("found 0 at 3", "found 1 at 3");
        CHECKS.given("rules(): none stays in its place", none, none.rules(), 0);
        CHECKS.promise(31, "NONE: 1 (no HOUSE).");
        NightRound x = new NightRound();
        CHECKS.refused("rules() without a house", x, x.rules(), 1);
    }

    private static void rows() {
        CHECKS.promise(32, "The i-th, by places, steps, first places: 10,000 times, 100 times and.");
        NightRound x = box();
        int[] due = {20_100, 20_101, 30_100, 30_101, 30_102, 30_200, 30_201, 30_202, 40_100};
        for (int i = 0; i < due.length; i++) {
            CHECKS.given("ruleAt(" + i + ")", x, x.ruleAt(i), due[i]);
        }
        CHECKS.given("ruleAt(571)", x, x.ruleAt(571), 121_111);
        CHECKS.promise(32, "NONE: 1.");
        NightRound three = box("found 3 at 0", "found 1 at 3", "lost 2 at 4");
        NightRound none = box("found 0 at 3", "found 1 at 3");
        NightRound houseless = new NightRound();
        CHECKS.refused("ruleAt(572)", x, x.ruleAt(572), 1);
        CHECKS.refused("ruleAt(3) of three", three, three.ruleAt(3), 1);
        CHECKS.refused("ruleAt(0) of none", none, none.ruleAt(0), 1);
        CHECKS.refused("ruleAt(0) without a house", houseless, houseless.ruleAt(0), 1);
        for (int far : new int[] {-1, Integer.MIN_VALUE, Integer.MAX_VALUE}) {
            CHECKS.refused("ruleAt(" + far + ")", x, x.ruleAt(far), 1);
        }
    }

    private static void howManyThere() {
        CHECKS.promise(33, "In how many of them it is in a place on a night (0 .. 99).");
        NightRound x = box();
        CHECKS.given("there(0, 0)", x, x.there(0, 0), 66);
        CHECKS.given("there(0, 11)", x, x.there(0, 11), 11);
        CHECKS.given("there(99, 11)", x, x.there(99, 11), 11);
        CHECKS.given("there(99, 0)", x, x.there(99, 0), 66);
        NightRound one = box("found 99 at 11", "found 98 at 10");
        CHECKS.given("there(99, 11)", one, one.there(99, 11), 1);
        CHECKS.given("there(99, 10)", one, one.there(99, 10), 0);
        CHECKS.given("there(0, 8)", one, one.there(0, 8), 1);
        NightRound none = box("found 0 at 3", "found 1 at 3");
        CHECKS.given("there(0, 3) without rules", none, none.there(0, 3), 0);
    }

    private static void thereRefused() {
        CHECKS.promise(33, "NONE: 1 (no HOUSE); 2.");
        NightRound x = box();
        NightRound none = new NightRound();
        CHECKS.refused("there(0, 12)", x, x.there(0, 12), 2);
        CHECKS.refused("there(0, 0) without a house", none, none.there(0, 0), 1);
        for (int far : FAR_OFF) {
            CHECKS.refused("there(" + far + ", 0)", x, x.there(far, 0), 2);
            CHECKS.refused("there(0, " + far + ")", x, x.there(0, far), 2);
            CHECKS.refused("there(" + far + ", 12) without a house", none, none.there(far, 12), 1);
        }
    }

    /* The one rule is at place 0 on nights 4, 16, .., 88, 100. */
    private static void surelyUpTo99() {
        CHECKS.promise(34, "The first night from one on (.. 99) on which it SURELY is at place 0; -2 (without RULES, too).");
        NightRound x = box("found 99 at 11", "found 98 at 10");
        CHECKS.given("surely(0)", x, x.surely(0), 4);
        CHECKS.given("surely(4)", x, x.surely(4), 4);
        CHECKS.given("surely(5)", x, x.surely(5), 16);
        CHECKS.given("surely(88)", x, x.surely(88), 88);
        CHECKS.given("surely(89): 100 is too late", x, x.surely(89), -2);
        CHECKS.given("surely(99)", x, x.surely(99), -2);
        NightRound last = box("found 99 at 0", "found 98 at 11");
        CHECKS.given("surely(88)", last, last.surely(88), 99);
        CHECKS.given("surely(99)", last, last.surely(99), 99);
        NightRound none = box("found 0 at 3", "found 1 at 3");
        CHECKS.given("surely(0) without rules", none, none.surely(0), -2);
        CHECKS.given("surely(99) without rules", none, none.surely(99), -2);
    }

    private static void surelyRefused() {
        CHECKS.promise(34, "NONE: 1 (no HOUSE); 2.");
        NightRound x = box();
        NightRound none = new NightRound();
        CHECKS.refused("surely(0) without a house", none, none.surely(0), 1);
        for (int far : FAR_OFF) {
            CHECKS.refused("surely(" + far + ")", x, x.surely(far), 2);
            CHECKS.refused("surely(" + far + ") without a house", none, none.surely(far), 1);
        }
    }

    private static void looking() {
        NightRound none = box("found 0 at 3", "found 1 at 3");
        NightRound houseless = new NightRound();
        CHECKS.promise(35, "LOOK: 100 times the night and the place; -2 no RULES.");
        CHECKS.given("look() without rules", none, none.look(), -2);
        CHECKS.due("look()", box("found 10 at 10", "found 9 at 9").look(), 1100);
        CHECKS.promise(35, "NONE: 1 (no HOUSE).");
        CHECKS.refused("look() without a house", houseless, houseless.look(), 1);
        CHECKS.promise(36, "How many are left at most then; -2 likewise.");
        CHECKS.given("lookLeaves() without rules", none, none.lookLeaves(), -2);
        CHECKS.due("lookLeaves()", box("found 10 at 10", "found 9 at 9").lookLeaves(), 1);
        CHECKS.promise(36, "NONE: 1 (no HOUSE).");
        CHECKS.refused("lookLeaves() without a house", houseless, houseless.lookLeaves(), 1);
    }
}
