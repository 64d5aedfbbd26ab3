import java.util.NoSuchElementException;

/** Promises 50 to 52: led, size, trouble. */
public final class ToldTest {
    private static final Checks CHECKS = new Checks("ToldTest");

    private ToldTest() {
    }

    public static void main(String[] args) {
        heldOnes();
        sizes();
        troubles();
        CHECKS.end();
    }

    private static boolean throwsFor(NightRound x, int i) {
        try {
            x.led(i);
            return false;
        } catch (NoSuchElementException e) {
            return true;
        }
    }

    private static void heldOnes() {
        NightRound x = Told.house(NowTest.TEXT);
        CHECKS.due("led(0) of none", throwsFor(x, 0), true);
        x.hold(5);
        x.hold(1);
        CHECKS.due("led(0)", x.led(0), 1);
        CHECKS.due("led(1)", x.led(1), 5);
        CHECKS.due("led(2)", throwsFor(x, 2), true);
        CHECKS.due("led(-1)", throwsFor(x, -1), true);
        CHECKS.due("led(least)", throwsFor(x, Integer.MIN_VALUE), true);
        CHECKS.due("led(most)", throwsFor(x, Integer.MAX_VALUE), true);
        x.let(1);
        CHECKS.due("led(0) behind let", x.led(0), 5);
        CHECKS.due("led(0) without a house", throwsFor(new NightRound(), 0), true);
    }

    private static void sizes() {
        NightRound x = Told.house(NowTest.TEXT + ";want x in a at 4 night 2 pays 3;found 4 at 4;lost 5 at 0;found 6 at 1");
        x.night();
        x.night();
        x.hold(1);
        x.undo();
        x.image();
        x.feed(0, 0, 0, 0, 0);
        int[] sizes = {3, 0, 3, 12, 6, 2, 2, 1, 3, 2, 2, 1, 20};
        for (int what = 0; what < sizes.length; what++) {
            CHECKS.due("size(" + what + ")", x.size(what), sizes[what]);
        }
        CHECKS.due("size(13)", x.size(13), -1);
        CHECKS.due("size(-1)", x.size(-1), -1);
        NightRound damp = Told.house("house cellar 4 damp 73;ring r plain places 2");
        CHECKS.due("size(0)", damp.size(0), 4);
        CHECKS.due("size(1)", damp.size(1), 73);
    }

    private static void troubles() {
        NightRound x = Told.house(NowTest.TEXT);
        CHECKS.refused("hold(9)", x, x.hold(9), 1);
        x.size(99);
        x.fault();
        x.where();
        throwsFor(x, 9);
        x.feed(0, 0, 0, 0, 0);
        CHECKS.due("trouble() behind calls that are never refused", x.trouble(), 1);
        CHECKS.due("trouble() again", x.trouble(), 1);
        CHECKS.given("hold(0)", x, x.hold(0));
        CHECKS.refused("behind(0, 999)", x, x.behind(0, 999), 2);
        for (int i = 0; i < 3; i++) {
            x.image();
        }
        CHECKS.refused("image()", x, x.image(), 3);
        CHECKS.refused("house of nothing", x, x.house(0), 4);
        CHECKS.refused("hold(0)", x, x.hold(0), 5);
        x.undo();
        CHECKS.refused("undo()", x, x.undo(), 6);
        CHECKS.given("still()", x, x.still(), 3);
    }
}
