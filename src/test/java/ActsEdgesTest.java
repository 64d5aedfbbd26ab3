/** ACTS, UNDO, IMAGES of Terms III, promises 43 to 49, sentence by sentence: the edges of hold, let, put, night, undo, image, back. */
public final class ActsEdgesTest {
    private static final Checks CHECKS = new Checks("ActsEdgesTest");
    private static final String HOUSE = "house cellar 1 damp 0;ring r plain places 9;ring q attic places 2;narrow q 0 by 0;";
    private static final String TEXT = HOUSE + "thing a plain in r at 0 size 1;thing b broken in r at 4 size 9;thing c pet in r at 8 size 1";
    private static final int[] FAR_OFF = {-1, Integer.MIN_VALUE, Integer.MAX_VALUE, 1000};

    private ActsEdgesTest() {
    }

    public static void main(String[] args) {
        latest();
        sixteen();
        sixteenRound();
        threeImages();
        nothingToUndo();
        holds();
        lets();
        puts();
        putsRefused();
        nights();
        nightsRefused();
        undoes();
        images();
        backs();
        backsRefused();
        CHECKS.end();
    }

    private static void latest() {
        CHECKS.term("UNDO: the latest");
        NightRound x = Told.house(TEXT);
        x.hold(0);
        x.let(0);
        x.put(0, 1, 0);
        x.night();
        CHECKS.given("undo() of night", x, x.undo());
        CHECKS.due("size(9)", x.size(9), 0);
        CHECKS.due("thing(0, 2)", x.thing(0, 2), 0);
        CHECKS.due("thing(2, 2)", x.thing(2, 2), 8);
        CHECKS.due("thing(0, 1)", x.thing(0, 1), 1);
        CHECKS.given("undo() of put", x, x.undo());
        CHECKS.due("thing(0, 1)", x.thing(0, 1), 0);
        CHECKS.due("thing(0, 4)", x.thing(0, 4), 0);
        CHECKS.given("undo() of let", x, x.undo());
        CHECKS.due("thing(0, 4)", x.thing(0, 4), 1);
        CHECKS.given("undo() of hold", x, x.undo());
        CHECKS.due("thing(0, 4)", x.thing(0, 4), 0);
        CHECKS.refused("undo() of none", x, x.undo(), 6);
        x.night();
        x.undo();
        CHECKS.refused("undo() isn't an act that could be undone", x, x.undo(), 6);
    }

    private static void sixteen() {
        CHECKS.term("(16 are kept)");
        for (int acts : new int[] {1, 15, 16, 17, 18, 40}) {
            NightRound x = Told.house(TEXT);
            for (int k = 0; k < acts; k++) {
                x.night();
            }
            int kept = Math.min(acts, 16);
            CHECKS.due("size(10) behind " + acts, x.size(10), kept);
            for (int k = 1; k <= kept; k++) {
                CHECKS.given("undo() " + k + " of " + acts, x, x.undo());
                CHECKS.due("size(9)", x.size(9), acts - k);
                CHECKS.due("size(10)", x.size(10), kept - k);
            }
            CHECKS.refused("undo() of one more than are kept", x, x.undo(), 6);
            CHECKS.due("size(9)", x.size(9), acts - kept);
        }
    }

    private static void sixteenRound() {
        CHECKS.term("UNDO: the latest (16 are kept).");
        NightRound x = Told.house(TEXT);
        for (int round = 1; round <= 7; round++) {
            for (int k = 0; k < 5; k++) {
                x.night();
            }
            x.undo();
            x.undo();
            CHECKS.due("size(9)", x.size(9), 3 * round);
            CHECKS.due("size(10)", x.size(10), round < 5 ? 3 * round : 14);
        }
        for (int k = 20; k >= 7; k--) {
            CHECKS.given("undo()", x, x.undo());
            CHECKS.due("size(9)", x.size(9), k);
        }
        CHECKS.refused("undo()", x, x.undo(), 6);
    }

    private static void threeImages() {
        CHECKS.term("IMAGES: up to 3;");
        NightRound x = Told.house(TEXT);
        for (int image = 0; image < 3; image++) {
            CHECKS.due("size(11)", x.size(11), image);
            CHECKS.given("image()", x, x.image(), image);
            x.night();
        }
        CHECKS.refused("image() of a fourth", x, x.image(), 3);
        CHECKS.due("size(11)", x.size(11), 3);
        for (int image = 2; image >= 0; image--) {
            CHECKS.given("back(" + image + ")", x, x.back(image));
            CHECKS.due("size(9)", x.size(9), image);
        }
        CHECKS.refused("image() of a fourth behind back", x, x.image(), 3);
        Told.tell(x, TEXT);
        CHECKS.given("image() of a new house", x, x.image(), 0);
    }

    private static void nothingToUndo() {
        CHECKS.term("gone back to one, nothing can be undone");
        NightRound x = Told.house(TEXT);
        x.night();
        x.image();
        CHECKS.due("size(10) behind image()", x.size(10), 1);
        x.night();
        CHECKS.given("back(0)", x, x.back(0));
        CHECKS.due("size(10)", x.size(10), 0);
        CHECKS.refused("undo()", x, x.undo(), 6);
        CHECKS.due("size(9)", x.size(9), 1);
        x.night();
        CHECKS.given("undo() of an act behind it", x, x.undo());
        CHECKS.due("size(9)", x.size(9), 1);
        CHECKS.refused("undo()", x, x.undo(), 6);
        x.night();
        CHECKS.refused("back(1) of none", x, x.back(1), 1);
        CHECKS.due("size(10) behind a refused back", x.size(10), 1);
    }

    private static void holds() {
        CHECKS.promise(43, "HOLD: true; false: 1; 5 (it is held).");
        NightRound x = Told.house(TEXT);
        for (int t = 0; t < 3; t++) {
            CHECKS.given("hold(" + t + ")", x, x.hold(t));
            CHECKS.due("thing(" + t + ", 4)", x.thing(t, 4), 1);
            CHECKS.refused("hold(" + t + ") of a held one", x, x.hold(t), 5);
        }
        CHECKS.refused("hold(3)", x, x.hold(3), 1);
        for (int far : FAR_OFF) {
            CHECKS.refused("hold(" + far + ")", x, x.hold(far), 1);
        }
        CHECKS.due("size(10): refused ones aren't kept", x.size(10), 3);
        NightRound full = Told.house(Told.FULLEST);
        CHECKS.given("hold(6)", full, full.hold(6));
        CHECKS.refused("hold(7)", full, full.hold(7), 1);
        NightRound none = new NightRound();
        CHECKS.refused("hold(0) without a house", none, none.hold(0), 1);
    }

    private static void lets() {
        CHECKS.promise(44, "LET it go: true; false: 1; 5 (it isn't held).");
        NightRound x = Told.house(TEXT);
        for (int t = 0; t < 3; t++) {
            CHECKS.refused("let(" + t + ") of one not held", x, x.let(t), 5);
            x.hold(t);
            CHECKS.given("let(" + t + ")", x, x.let(t));
            CHECKS.due("thing(" + t + ", 4)", x.thing(t, 4), 0);
            CHECKS.refused("let(" + t + ") again", x, x.let(t), 5);
        }
        CHECKS.refused("let(3)", x, x.let(3), 1);
        for (int far : FAR_OFF) {
            CHECKS.refused("let(" + far + ")", x, x.let(far), 1);
        }
        CHECKS.due("size(10): refused ones aren't kept", x.size(10), 6);
        NightRound none = new NightRound();
        CHECKS.refused("let(0) without a house", none, none.let(0), 1);
    }

    private static void puts() {
        CHECKS.promise(45, "PUT it in a place: true;");
        NightRound x = Told.house(TEXT);
        CHECKS.given("put(0, 1, 1): the last place of another ring", x, x.put(0, 1, 1));
        CHECKS.due("at(1, 1)", x.at(1, 1), 0);
        CHECKS.due("at(0, 0)", x.at(0, 0), -2);
        CHECKS.given("put(2, 0, 0): where it was", x, x.put(2, 0, 0));
        CHECKS.due("at(0, 0)", x.at(0, 0), 2);
        CHECKS.given("put(1, 1, 0): a broken one in a narrow place", x, x.put(1, 1, 0));
        CHECKS.due("at(1, 0)", x.at(1, 0), 1);
        CHECKS.given("put(1, 0, 8)", x, x.put(1, 0, 8));
        CHECKS.due("size(9): by day", x.size(9), 0);
        CHECKS.due("size(10)", x.size(10), 4);
        NightRound rings = Told.house("house cellar 2 damp 0;ring r plain places 9;ring q cellar places 9;ring o attic places 9;"
            + "thing a plain in q at 0 size 1");
        CHECKS.due("goes() in a cellar on night 1", rings.goes(), 0);
        rings.put(0, 0, 8);
        CHECKS.due("goes(): put in a plain ring", rings.goes(), 1);
        CHECKS.due("behind(0, 1)", rings.behind(0, 1), 0);
        rings.put(0, 2, 0);
        CHECKS.due("behind(0, 1): put in an attic", rings.behind(0, 1), 28);
        rings.put(0, 1, 8);
        CHECKS.due("goes(): put in a cellar again", rings.goes(), 0);
        CHECKS.due("behind(0, 2)", rings.behind(0, 2), 10);
    }

    private static void putsRefused() {
        CHECKS.promise(45, "false: 1; 5 (a thing is there, it is held).");
        NightRound x = Told.house(TEXT);
        CHECKS.refused("put(0, 0, 4): a thing is there", x, x.put(0, 0, 4), 5);
        CHECKS.refused("put(0, 0, 0): it is there itself", x, x.put(0, 0, 0), 5);
        x.hold(0);
        CHECKS.refused("put(0, 0, 1): it is held", x, x.put(0, 0, 1), 5);
        CHECKS.refused("put(0, 0, 4): both", x, x.put(0, 0, 4), 5);
        CHECKS.refused("put(0, 2, 0) of a held one", x, x.put(0, 2, 0), 1);
        CHECKS.refused("put(3, 0, 1)", x, x.put(3, 0, 1), 1);
        CHECKS.refused("put(2, 2, 0)", x, x.put(2, 2, 0), 1);
        CHECKS.refused("put(2, 0, 9)", x, x.put(2, 0, 9), 1);
        CHECKS.refused("put(2, 1, 2)", x, x.put(2, 1, 2), 1);
        for (int far : FAR_OFF) {
            CHECKS.refused("put(" + far + ", 0, 1)", x, x.put(far, 0, 1), 1);
            CHECKS.refused("put(2, " + far + ", 0)", x, x.put(2, far, 0), 1);
            CHECKS.refused("put(2, 0, " + far + ")", x, x.put(2, 0, far), 1);
        }
        CHECKS.due("size(10): refused ones aren't kept", x.size(10), 1);
        x.let(0);
        CHECKS.given("put(0, 0, 1) of one let go", x, x.put(0, 0, 1));
        NightRound none = new NightRound();
        CHECKS.refused("put(0, 0, 0) without a house", none, none.put(0, 0, 0), 1);
    }

    private static void nights() {
        CHECKS.promise(46, "NIGHT: things that went, as bits.");
        NightRound x = Told.house(TEXT);
        CHECKS.given("night()", x, x.night(), 5);
        CHECKS.due("size(9)", x.size(9), 1);
        CHECKS.due("thing(0, 2)", x.thing(0, 2), 1);
        CHECKS.due("thing(1, 2)", x.thing(1, 2), 4);
        CHECKS.due("thing(2, 2): round the ring", x.thing(2, 2), 0);
        x.hold(0);
        x.hold(2);
        CHECKS.given("night() of none", x, x.night(), 0);
        CHECKS.due("size(9): a night in which none went", x.size(9), 2);
        NightRound empty = Told.house("house cellar 1 damp 100;ring r plain places 2");
        CHECKS.given("night() without things", empty, empty.night(), 0);
        NightRound damp = Told.house(TEXT.replace("damp 0", "damp 100"));
        CHECKS.given("night() isn't damp", damp, damp.night(), 5);
    }

    /* More calls than an object is used for: what the document says of 999 nights holds all the same. */
    private static void nightsRefused() {
        CHECKS.promise(46, "NONE: 1 (no HOUSE); 3 (999 went by).");
        NightRound none = new NightRound();
        CHECKS.refused("night() without a house", none, none.night(), 1);
        NightRound x = Told.house(TEXT);
        x.image();
        for (int k = 1; k <= 998; k++) {
            x.night();
        }
        CHECKS.due("size(9)", x.size(9), 998);
        CHECKS.given("night() 999", x, x.night(), 0);
        CHECKS.refused("night() 1000", x, x.night(), 3);
        CHECKS.due("size(9)", x.size(9), 999);
        CHECKS.due("size(10)", x.size(10), 16);
        CHECKS.given("behind(0, 200) may be thought of", x, x.behind(0, 200), 3);
        CHECKS.given("undo()", x, x.undo());
        CHECKS.given("night() 999 again", x, x.night(), 0);
        CHECKS.given("back(0)", x, x.back(0));
        CHECKS.given("night() 1", x, x.night(), 5);
    }

    private static void undoes() {
        CHECKS.promise(47, "UNDO: true; false: 6.");
        NightRound none = new NightRound();
        CHECKS.refused("undo() without a house", none, none.undo(), 6);
        NightRound x = Told.house(TEXT);
        CHECKS.refused("undo() of none", x, x.undo(), 6);
        x.hold(0);
        CHECKS.given("undo()", x, x.undo());
        CHECKS.refused("undo() again", x, x.undo(), 6);
        x.hold(0);
        Told.tell(x, TEXT);
        CHECKS.refused("undo() of a new house", x, x.undo(), 6);
    }

    private static void images() {
        CHECKS.promise(48, "An IMAGE: its number.");
        NightRound x = Told.house(TEXT);
        CHECKS.given("image()", x, x.image(), 0);
        CHECKS.given("image() of the same", x, x.image(), 1);
        CHECKS.given("image()", x, x.image(), 2);
        CHECKS.promise(48, "NONE: 1 (no HOUSE); 3.");
        CHECKS.refused("image() of a fourth", x, x.image(), 3);
        NightRound none = new NightRound();
        CHECKS.refused("image() without a house", none, none.image(), 1);
    }

    private static void backs() {
        CHECKS.promise(49, "All is as by an IMAGE (all IMAGES stay): true;");
        NightRound x = Told.house(TEXT);
        x.image();
        x.night();
        x.hold(2);
        x.put(0, 1, 1);
        x.image();
        x.let(2);
        x.night();
        for (int round = 0; round < 2; round++) {
            CHECKS.given("back(1)", x, x.back(1));
            CHECKS.due("size(9)", x.size(9), 1);
            CHECKS.due("thing(0, 1)", x.thing(0, 1), 1);
            CHECKS.due("thing(2, 4)", x.thing(2, 4), 1);
            CHECKS.due("size(11)", x.size(11), 2);
            CHECKS.given("back(0)", x, x.back(0));
            CHECKS.due("size(9)", x.size(9), 0);
            CHECKS.due("thing(0, 1)", x.thing(0, 1), 0);
            CHECKS.due("thing(0, 2)", x.thing(0, 2), 0);
            CHECKS.due("thing(2, 4)", x.thing(2, 4), 0);
            CHECKS.due("size(11)", x.size(11), 2);
            x.night();
            x.hold(1);
        }
        CHECKS.given("image() behind back", x, x.image(), 2);
    }

    private static void backsRefused() {
        CHECKS.promise(49, "false: 1.");
        NightRound x = Told.house(TEXT);
        CHECKS.refused("back(0) without images", x, x.back(0), 1);
        x.image();
        CHECKS.refused("back(1)", x, x.back(1), 1);
        x.image();
        x.image();
        CHECKS.refused("back(3)", x, x.back(3), 1);
        for (int far : FAR_OFF) {
            CHECKS.refused("back(" + far + ")", x, x.back(far), 1);
        }
        Told.tell(x, TEXT);
        CHECKS.refused("back(0) of a new house", x, x.back(0), 1);
        NightRound none = new NightRound();
        CHECKS.refused("back(0) without a house", none, none.back(0), 1);
    }
}
