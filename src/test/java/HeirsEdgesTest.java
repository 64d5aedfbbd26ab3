/** HEIRS and REST of Terms III, promises 37 to 39, sentence by sentence: the edges of heir, rests, rest. */
public final class HeirsEdgesTest {
    private static final Checks CHECKS = new Checks("HeirsEdgesTest");
    private static final int[] WORTHS_FAR_OFF = {-1, 100, 101, Integer.MIN_VALUE, Integer.MAX_VALUE};
    private static final int[] BIDS_FAR_OFF = {-1, 7, 8, Integer.MIN_VALUE, Integer.MAX_VALUE};

    private HeirsEdgesTest() {
    }

    public static void main(String[] args) {
        NightRound x = Told.house("house cellar 1 damp 0;ring r plain places 2");
        shares(x);
        squares(x);
        rests(x);
        heirs(x);
        heirsRefused(x);
        counts(x);
        firsts(x);
        CHECKS.end();
    }

    private static void shares(NightRound x) {
        CHECKS.term("HEIRS bid 0 .. 6 nights each for so much worth: who bids more has it, both half (downwards) if alike");
        CHECKS.given("more by one night", x, x.heir(99, 1, 0, false), 98);
        CHECKS.given("less by one night", x, x.heir(99, 0, 1, false), 0);
        CHECKS.given("half of 99, downwards", x, x.heir(99, 0, 0, false), 49);
        CHECKS.given("the other half of 99, downwards", x, x.heir(99, 0, 0, true), 49);
        CHECKS.given("half of 1", x, x.heir(1, 0, 0, false), 0);
        CHECKS.given("half of 2", x, x.heir(2, 0, 0, false), 1);
        CHECKS.given("half of 0", x, x.heir(0, 0, 0, true), 0);
        CHECKS.given("most against none", x, x.heir(10, 6, 0, true), 0);
    }

    private static void squares(NightRound x) {
        CHECKS.term("each pays its nights' squares");
        int[] squares = {0, 1, 4, 9, 16, 25, 36};
        for (int bid = 0; bid <= 6; bid++) {
            CHECKS.given("for nothing by " + bid, x, x.heir(0, bid, 3, false), -squares[bid]);
            CHECKS.given("for nothing by " + bid + ", the other one", x, x.heir(0, 3, bid, true), -squares[bid]);
            CHECKS.given("for 50 alike by " + bid, x, x.heir(50, bid, bid, false), 25 - squares[bid]);
        }
    }

    private static void rests(NightRound x) {
        CHECKS.term("REST: a pair by which neither could have more alone.");
        /* For 1, half of which is none: nobody has more than nothing, whoever bids one night for it. */
        CHECKS.given("rests(1)", x, x.rests(1), 3);
        CHECKS.given("rest(1)", x, x.rest(1), 0);
        /* For 3, half of which is 1: one night more has 2 of it; two against one have less than nothing. */
        CHECKS.given("rests(3)", x, x.rests(3), 3);
        CHECKS.given("rest(3)", x, x.rest(3), 1);
        CHECKS.given("rests(99): by most alone", x, x.rests(99), 1);
        CHECKS.given("rest(99)", x, x.rest(99), 66);
    }

    private static void heirs(NightRound x) {
        CHECKS.promise(37, "What the one (or other, the other one) has by both's nights (0 .. 6) for so much worth (0 .. 99).");
        CHECKS.given("heir(0, 0, 0, false)", x, x.heir(0, 0, 0, false), 0);
        CHECKS.given("heir(99, 6, 6, false)", x, x.heir(99, 6, 6, false), 13);
        CHECKS.given("heir(99, 6, 0, false)", x, x.heir(99, 6, 0, false), 63);
        CHECKS.given("heir(99, 6, 0, true)", x, x.heir(99, 6, 0, true), 0);
        CHECKS.given("heir(99, 0, 6, false)", x, x.heir(99, 0, 6, false), 0);
        CHECKS.given("heir(99, 0, 6, true)", x, x.heir(99, 0, 6, true), 63);
        CHECKS.given("heir(99, 5, 6, false)", x, x.heir(99, 5, 6, false), -25);
        CHECKS.given("heir(99, 5, 6, true)", x, x.heir(99, 5, 6, true), 63);
    }

    private static void refusedHeir(NightRound x, String call, int got, int trouble) {
        CHECKS.due(call, got, -100);
        CHECKS.due(call + ", trouble", x.trouble(), trouble);
    }

    private static void heirsRefused(NightRound x) {
        CHECKS.promise(37, "-100: 1 (no HOUSE); 2.");
        NightRound none = new NightRound();
        refusedHeir(none, "heir(0, 0, 0, false) without a house", none.heir(0, 0, 0, false), 1);
        refusedHeir(none, "heir(100, 7, 7, true) without a house", none.heir(100, 7, 7, true), 1);
        for (int far : WORTHS_FAR_OFF) {
            refusedHeir(x, "heir(" + far + ", 0, 0, false)", x.heir(far, 0, 0, false), 2);
            refusedHeir(x, "heir(" + far + ", 0, 0, true)", x.heir(far, 0, 0, true), 2);
        }
        for (int far : BIDS_FAR_OFF) {
            refusedHeir(x, "heir(0, " + far + ", 0, false)", x.heir(0, far, 0, false), 2);
            refusedHeir(x, "heir(0, " + far + ", 0, true)", x.heir(0, far, 0, true), 2);
            refusedHeir(x, "heir(0, 0, " + far + ", false)", x.heir(0, 0, far, false), 2);
            refusedHeir(x, "heir(0, 0, " + far + ", true)", x.heir(0, 0, far, true), 2);
        }
    }

    private static void counts(NightRound x) {
        CHECKS.promise(38, "How many RESTS.");
        CHECKS.given("rests(0): none bids", x, x.rests(0), 1);
        CHECKS.given("rests(2)", x, x.rests(2), 4);
        CHECKS.given("rests(20): none", x, x.rests(20), 0);
        CHECKS.given("rests(99)", x, x.rests(99), 1);
        CHECKS.promise(38, "NONE: 1 (no HOUSE); 2.");
        NightRound none = new NightRound();
        CHECKS.refused("rests(0) without a house", none, none.rests(0), 1);
        for (int far : WORTHS_FAR_OFF) {
            CHECKS.refused("rests(" + far + ")", x, x.rests(far), 2);
            CHECKS.refused("rests(" + far + ") without a house", none, none.rests(far), 1);
        }
    }

    private static void firsts(NightRound x) {
        CHECKS.promise(39, "The first, by the one's nights, then the other one's: 10 times and; -2.");
        CHECKS.given("rest(0)", x, x.rest(0), 0);
        CHECKS.given("rest(2): of four", x, x.rest(2), 0);
        CHECKS.given("rest(3): of three, 1, 10, 11", x, x.rest(3), 1);
        CHECKS.given("rest(20): none", x, x.rest(20), -2);
        CHECKS.given("rest(99)", x, x.rest(99), 66);
        CHECKS.promise(39, "NONE: likewise.");
        NightRound none = new NightRound();
        CHECKS.refused("rest(0) without a house", none, none.rest(0), 1);
        for (int far : WORTHS_FAR_OFF) {
            CHECKS.refused("rest(" + far + ")", x, x.rest(far), 2);
            CHECKS.refused("rest(" + far + ") without a house", none, none.rest(far), 1);
        }
    }
}
