/** Promises 37 to 39: heir, rests, rest. */
public final class HeirsTest {
    private static final Checks CHECKS = new Checks("HeirsTest");

    private HeirsTest() {
    }

    public static void main(String[] args) {
        NightRound x = Told.house("house cellar 1 damp 0;ring r plain places 2");
        gains(x);
        rests(x);
        wrong(x);
        withoutHouse();
        CHECKS.end();
    }

    private static void gains(NightRound x) {
        CHECKS.given("heir(9, 3, 3, false)", x, x.heir(9, 3, 3, false), -5);
        CHECKS.given("heir(9, 4, 3, false)", x, x.heir(9, 4, 3, false), -7);
        CHECKS.given("heir(9, 4, 3, true)", x, x.heir(9, 4, 3, true), -9);
        CHECKS.given("heir(9, 2, 3, false)", x, x.heir(9, 2, 3, false), -4);
        CHECKS.given("heir(9, 2, 3, true)", x, x.heir(9, 2, 3, true), 0);
        CHECKS.given("heir(99, 0, 0, true)", x, x.heir(99, 0, 0, true), 49);
        CHECKS.given("heir(0, 6, 6, false)", x, x.heir(0, 6, 6, false), -36);
        CHECKS.given("heir(99, 6, 0, false)", x, x.heir(99, 6, 0, false), 63);
    }

    private static void rests(NightRound x) {
        int[] worths = {0, 1, 2, 3, 10, 20, 99};
        int[] counts = {1, 3, 4, 3, 1, 0, 1};
        int[] firsts = {0, 0, 0, 1, 22, -2, 66};
        for (int i = 0; i < worths.length; i++) {
            CHECKS.given("rests(" + worths[i] + ")", x, x.rests(worths[i]), counts[i]);
            CHECKS.given("rest(" + worths[i] + ")", x, x.rest(worths[i]), firsts[i]);
        }
    }

    private static void refusedHeir(NightRound x, String call, int got, int trouble) {
        CHECKS.due(call, got, -100);
        CHECKS.due(call + ", trouble", x.trouble(), trouble);
    }

    private static void wrong(NightRound x) {
        refusedHeir(x, "heir(100, 0, 0, false)", x.heir(100, 0, 0, false), 2);
        refusedHeir(x, "heir(-1, 0, 0, false)", x.heir(-1, 0, 0, false), 2);
        refusedHeir(x, "heir(0, 7, 0, false)", x.heir(0, 7, 0, false), 2);
        refusedHeir(x, "heir(0, -1, 0, true)", x.heir(0, -1, 0, true), 2);
        refusedHeir(x, "heir(0, 0, 7, false)", x.heir(0, 0, 7, false), 2);
        refusedHeir(x, "heir(0, 0, -1, true)", x.heir(0, 0, -1, true), 2);
        CHECKS.refused("rests(100)", x, x.rests(100), 2);
        CHECKS.refused("rests(-1)", x, x.rests(-1), 2);
        CHECKS.refused("rest(100)", x, x.rest(100), 2);
        CHECKS.refused("rest(-1)", x, x.rest(-1), 2);
    }

    private static void withoutHouse() {
        NightRound x = new NightRound();
        refusedHeir(x, "heir without a house", x.heir(100, 7, 7, true), 1);
        CHECKS.refused("rests without a house", x, x.rests(100), 1);
        CHECKS.refused("rest without a house", x, x.rest(100), 1);
    }
}
