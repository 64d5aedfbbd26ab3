/** Promises 43 to 49: hold, let, put, night, undo, image, back. */
public final class ActsTest {
    private static final Checks CHECKS = new Checks("ActsTest");

    private ActsTest() {
    }

    public static void main(String[] args) {
        holdAndLet();
        puts();
        nights();
        lastNight();
        undoes();
        onlySixteen();
        images();
        withoutHouse();
        CHECKS.end();
    }

    private static void holdAndLet() {
        NightRound x = Told.house(NowTest.TEXT);
        CHECKS.refused("let(0) of one not held", x, x.let(0), 5);
        CHECKS.given("hold(0)", x, x.hold(0));
        CHECKS.due("thing(0, 4)", x.thing(0, 4), 1);
        CHECKS.refused("hold(0) again", x, x.hold(0), 5);
        CHECKS.given("hold(5)", x, x.hold(5));
        CHECKS.given("let(0)", x, x.let(0));
        CHECKS.due("thing(0, 4)", x.thing(0, 4), 0);
        CHECKS.due("thing(5, 4)", x.thing(5, 4), 1);
        CHECKS.refused("let(0) again", x, x.let(0), 5);
        CHECKS.refused("hold(6)", x, x.hold(6), 1);
        CHECKS.refused("hold(-1)", x, x.hold(-1), 1);
        CHECKS.refused("let(6)", x, x.let(6), 1);
        CHECKS.refused("let(-1)", x, x.let(-1), 1);
        CHECKS.due("size(10)", x.size(10), 3);
    }

    private static void puts() {
        NightRound x = Told.house(NowTest.TEXT);
        CHECKS.given("put(0, 2, 4)", x, x.put(0, 2, 4));
        CHECKS.due("at(2, 4)", x.at(2, 4), 0);
        CHECKS.due("at(0, 1)", x.at(0, 1), -2);
        CHECKS.given("put(4, 0, 1) of a broken one", x, x.put(4, 0, 1));
        CHECKS.given("put(1, 0, 2) in a narrow place", x, x.put(1, 0, 2));
        CHECKS.refused("put(0, 0, 1) where one is", x, x.put(0, 0, 1), 5);
        CHECKS.refused("put(0, 2, 4) where it is", x, x.put(0, 2, 4), 5);
        x.hold(0);
        CHECKS.refused("put(0, 0, 0) of a held one", x, x.put(0, 0, 0), 5);
        CHECKS.refused("put(6, 0, 0)", x, x.put(6, 0, 0), 1);
        CHECKS.refused("put(-1, 0, 0)", x, x.put(-1, 0, 0), 1);
        CHECKS.refused("put(0, 3, 0)", x, x.put(0, 3, 0), 1);
        CHECKS.refused("put(0, 0, 4)", x, x.put(0, 0, 4), 1);
        CHECKS.refused("put(1, 0, -1)", x, x.put(1, 0, -1), 1);
        CHECKS.due("size(10)", x.size(10), 4);
        CHECKS.due("thing(0, 2)", x.thing(0, 2), 4);
        /* One from a plain ring goes by the cellar's nights where it is put. */
        NightRound y = Told.house(HeldTest.TEXT.replace("ring q plain", "ring q cellar").replace("cellar 1", "cellar 2"));
        y.put(0, 1, 3);
        CHECKS.due("goes() on night 1", y.goes(), 6);
        y.night();
        CHECKS.due("goes() on night 2", y.goes(), 15);
    }

    private static void nights() {
        NightRound x = Told.house(NowTest.TEXT);
        CHECKS.given("night()", x, x.night(), 11);
        CHECKS.due("size(9)", x.size(9), 1);
        CHECKS.due("thing(0, 2)", x.thing(0, 2), 2);
        CHECKS.due("thing(3, 2)", x.thing(3, 2), 1);
        CHECKS.due("thing(2, 2)", x.thing(2, 2), 0);
        CHECKS.given("night()", x, x.night(), 1);
        CHECKS.due("size(10)", x.size(10), 2);
    }

    private static void lastNight() {
        NightRound x = Told.house("house cellar 1 damp 0;ring r plain places 2;thing a plain in r at 0 size 1");
        for (int k = 1; k <= 999; k++) {
            x.night();
        }
        CHECKS.due("size(9)", x.size(9), 999);
        CHECKS.due("thing(0, 2)", x.thing(0, 2), 1);
        CHECKS.refused("night() behind 999", x, x.night(), 3);
        CHECKS.due("size(9)", x.size(9), 999);
        CHECKS.due("goes()", x.goes(), 1);
        CHECKS.given("undo()", x, x.undo());
        CHECKS.given("night()", x, x.night(), 1);
    }

    private static void undoes() {
        NightRound x = Told.house(NowTest.TEXT);
        x.hold(1);
        x.night();
        x.put(0, 0, 1);
        x.let(1);
        CHECKS.given("undo() of let", x, x.undo());
        CHECKS.due("thing(1, 4)", x.thing(1, 4), 1);
        CHECKS.given("undo() of put", x, x.undo());
        CHECKS.due("thing(0, 2)", x.thing(0, 2), 2);
        CHECKS.given("undo() of night", x, x.undo());
        CHECKS.due("size(9)", x.size(9), 0);
        CHECKS.due("thing(0, 2)", x.thing(0, 2), 1);
        CHECKS.due("size(10)", x.size(10), 1);
        CHECKS.given("undo() of hold", x, x.undo());
        CHECKS.due("thing(1, 4)", x.thing(1, 4), 0);
        CHECKS.refused("undo() of none", x, x.undo(), 6);
        x.hold(1);
        CHECKS.refused("hold(1) refused isn't kept", x, x.hold(1), 5);
        CHECKS.due("size(10)", x.size(10), 1);
    }

    private static void onlySixteen() {
        NightRound x = Told.house("house cellar 1 damp 0;ring r plain places 9;thing a plain in r at 0 size 1");
        for (int k = 1; k <= 20; k++) {
            x.night();
        }
        CHECKS.due("size(10)", x.size(10), 16);
        for (int k = 19; k >= 4; k--) {
            CHECKS.given("undo()", x, x.undo());
            CHECKS.due("size(9)", x.size(9), k);
            CHECKS.due("thing(0, 2)", x.thing(0, 2), k % 9);
        }
        CHECKS.refused("undo() of the 17th", x, x.undo(), 6);
        CHECKS.due("size(9)", x.size(9), 4);
        x.night();
        CHECKS.given("undo()", x, x.undo());
        CHECKS.refused("undo()", x, x.undo(), 6);
    }

    private static void images() {
        NightRound x = Told.house(NowTest.TEXT);
        CHECKS.refused("back(0) without one", x, x.back(0), 1);
        CHECKS.given("image()", x, x.image(), 0);
        x.hold(1);
        x.night();
        CHECKS.given("image()", x, x.image(), 1);
        CHECKS.due("size(10) stays", x.size(10), 2);
        x.let(1);
        x.put(0, 1, 1);
        x.night();
        CHECKS.given("image()", x, x.image(), 2);
        CHECKS.refused("image() of a fourth", x, x.image(), 3);
        CHECKS.given("back(1)", x, x.back(1));
        CHECKS.due("size(9)", x.size(9), 1);
        CHECKS.due("thing(1, 4)", x.thing(1, 4), 1);
        CHECKS.due("thing(0, 1)", x.thing(0, 1), 0);
        CHECKS.due("size(10)", x.size(10), 0);
        CHECKS.due("size(11)", x.size(11), 3);
        CHECKS.refused("undo() behind back", x, x.undo(), 6);
        CHECKS.given("back(0)", x, x.back(0));
        CHECKS.due("size(9)", x.size(9), 0);
        CHECKS.due("thing(0, 2)", x.thing(0, 2), 1);
        x.night();
        CHECKS.given("back(0) again", x, x.back(0));
        CHECKS.due("size(9)", x.size(9), 0);
        CHECKS.given("back(2)", x, x.back(2));
        CHECKS.due("thing(0, 1)", x.thing(0, 1), 1);
        CHECKS.refused("back(3)", x, x.back(3), 1);
        CHECKS.refused("back(-1)", x, x.back(-1), 1);
    }

    private static void withoutHouse() {
        NightRound x = new NightRound();
        CHECKS.refused("hold", x, x.hold(0), 1);
        CHECKS.refused("let", x, x.let(0), 1);
        CHECKS.refused("put", x, x.put(0, 0, 0), 1);
        CHECKS.refused("night", x, x.night(), 1);
        CHECKS.refused("undo", x, x.undo(), 6);
        CHECKS.refused("image", x, x.image(), 1);
        CHECKS.refused("back", x, x.back(0), 1);
    }
}
