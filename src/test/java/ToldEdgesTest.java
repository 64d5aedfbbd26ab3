import java.util.NoSuchElementException;

/** Terms IV, promises 50 to 52, sentence by sentence: the edges of led, size, trouble. */
public final class ToldEdgesTest {
    private static final Checks CHECKS = new Checks("ToldEdgesTest");
    private static final int[] FAR_OFF = {-1, 7, 8, Integer.MIN_VALUE, Integer.MAX_VALUE};

    private ToldEdgesTest() {
    }

    public static void main(String[] args) {
        heldOnes();
        noSuchHeldOne();
        sizes();
        otherSizes();
        whatThereIsnt();
        eachTrouble();
        latestCall();
        CHECKS.end();
    }

    private static boolean throwsFor(NightRound x, int i) {
        try {
            x.led(i);
            return false;
        } catch (NoSuchElementException e) {
            return true;
        }
    }

    private static void heldOnes() {
        CHECKS.promise(50, "The i-th thing, by numbers, that is held.");
        NightRound x = Told.house(Told.FULLEST);
        x.hold(6);
        CHECKS.due("led(0): the last thing alone", x.led(0), 6);
        x.hold(0);
        CHECKS.due("led(0): by numbers, not as held", x.led(0), 0);
        CHECKS.due("led(1)", x.led(1), 6);
        for (int t = 1; t < 6; t++) {
            x.hold(t);
        }
        for (int t = 0; t < 7; t++) {
            CHECKS.due("led(" + t + ") of all", x.led(t), t);
        }
        x.let(0);
        CHECKS.due("led(0) behind let(0)", x.led(0), 1);
        x.undo();
        CHECKS.due("led(0) behind undo()", x.led(0), 0);
    }

    private static void noSuchHeldOne() {
        CHECKS.promise(50, "NoSuchElementException if there is none such.");
        NightRound none = new NightRound();
        CHECKS.due("led(0) without a house", throwsFor(none, 0), true);
        NightRound x = Told.house(Told.FULLEST);
        CHECKS.due("led(0) of none", throwsFor(x, 0), true);
        x.hold(3);
        CHECKS.due("led(0) of one", throwsFor(x, 0), false);
        CHECKS.due("led(1) of one", throwsFor(x, 1), true);
        for (int t : new int[] {0, 1, 2, 4, 5, 6}) {
            x.hold(t);
        }
        CHECKS.due("led(6) of seven", throwsFor(x, 6), false);
        for (int far : FAR_OFF) {
            CHECKS.due("led(" + far + ")", throwsFor(x, far), true);
        }
        Told.tell(x, Told.FULLEST);
        CHECKS.due("led(0) of a new house", throwsFor(x, 0), true);
    }

    private static void sizes() {
        CHECKS.promise(51, "0 cellar, 1 damp, 2 rings, 3 places of all, 4 things, 5 narrow places, 6 doors, 7 wants, 8 found and lost, 9 the night NOW, "
            + "10 ACTS that can be undone, 11 IMAGES, 12 bytes of THE TAPE.");
        NightRound x = Told.house(Told.FULLEST);
        int[] full = {5, 50, 4, 28, 7, 6, 5, 6, 6, 0, 0, 0, 0};
        for (int what = 0; what <= 12; what++) {
            CHECKS.due("size(" + what + ") of the fullest", x.size(what), full[what]);
        }
        x.night();
        x.hold(0);
        x.undo();
        x.image();
        x.feed(0, 0, 0, 0, 0);
        int[] later = {1, 1, 1, 20};
        for (int i = 0; i < 4; i++) {
            CHECKS.due("size(" + (9 + i) + ")", x.size(9 + i), later[i]);
        }
        NightRound largest = Told.house("house cellar 1 damp 100;ring a plain places 9;ring b plain places 9;ring c plain places 9;ring d plain places 9");
        CHECKS.due("size(3) of most places", largest.size(3), 36);
        NightRound smallest = Told.house("house cellar 1 damp 0;ring a plain places 2");
        int[] small = {1, 0, 1, 2, 0, 0, 0, 0, 0, 0, 0, 0, 0};
        for (int what = 0; what <= 12; what++) {
            CHECKS.due("size(" + what + ") of the smallest", smallest.size(what), small[what]);
        }
    }

    private static void otherSizes() {
        CHECKS.promise(51, "NONE for others;");
        NightRound none = new NightRound();
        NightRound x = Told.house(Told.FULLEST);
        for (int other : new int[] {-1, 13, 14, Integer.MIN_VALUE, Integer.MAX_VALUE}) {
            CHECKS.due("size(" + other + ") without a house", none.size(other), -1);
            CHECKS.due("size(" + other + ")", x.size(other), -1);
        }
        CHECKS.due("trouble() behind size()", x.trouble(), 0);
    }

    private static void whatThereIsnt() {
        CHECKS.promise(51, "0 for what there isn't.");
        NightRound x = new NightRound();
        for (int what = 0; what <= 12; what++) {
            CHECKS.due("size(" + what + ") of a new object", x.size(what), 0);
        }
        Told.tell(x, "house cellar 5 damp 50;ring r plain places 2;thing");
        for (int what = 0; what <= 12; what++) {
            CHECKS.due("size(" + what + ") behind a fault", x.size(what), 0);
        }
    }

    private static void eachTrouble() {
        CHECKS.promise(52, "TROUBLE.");
        NightRound x = new NightRound();
        CHECKS.due("trouble() of a new object", x.trouble(), 0);
        CHECKS.term("0 it wasn't; 1 there is none such; 2 a number; 3 no room; 4 a FAULT; 5 not so; 6 there is none.");
        CHECKS.refused("goes()", x, x.goes(), 1);
        CHECKS.refused("house(1)", x, x.house(1), 2);
        CHECKS.refused("undo()", x, x.undo(), 6);
        CHECKS.refused("house(0)", x, x.house(0), 4);
        CHECKS.given("house", x, Told.tell(x, Told.FULLEST), 4);
        x.image();
        x.image();
        x.image();
        CHECKS.refused("image()", x, x.image(), 3);
        CHECKS.refused("let(0)", x, x.let(0), 5);
        CHECKS.given("hold(0)", x, x.hold(0));
        CHECKS.given("when(0, 3, 0): -2 isn't refused", x, x.when(0, 3, 0), -2);
    }

    private static void latestCall() {
        CHECKS.term("TROUBLE of the latest call that may be refused (those of which a number is told here)");
        NightRound x = Told.house(Told.FULLEST);
        for (int k = 0; k < 45; k++) {
            x.feed(0, 0, 0, 0, 0);
        }
        CHECKS.refused("hold(7)", x, x.hold(7), 1);
        CHECKS.due("feed", x.feed(0, 0, 0, 0, 0), -1);
        x.fault();
        x.where();
        x.size(0);
        x.size(13);
        throwsFor(x, 0);
        CHECKS.due("trouble() behind calls of which no number is told", x.trouble(), 1);
        CHECKS.due("trouble() again", x.trouble(), 1);
        x.hold(0);
        x.led(0);
        CHECKS.due("trouble() behind a call that wasn't refused", x.trouble(), 0);
        x.undo();
        x.undo();
        CHECKS.due("trouble() of the latest", x.trouble(), 6);
        x.house(901);
        CHECKS.due("trouble() of house", x.trouble(), 2);
        x.house(900);
        CHECKS.due("trouble() of house", x.trouble(), 4);
        x.heir(100, 0, 0, false);
        CHECKS.due("trouble() of heir", x.trouble(), 2);
        x.heir(99, 0, 0, false);
        CHECKS.due("trouble() of heir", x.trouble(), 0);
    }
}
