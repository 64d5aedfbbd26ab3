/** Promises 6 to 13: ring, thing, at, narrow, ahead, goes, blocked, meeting. */
public final class NowTest {
    static final String TEXT = "house cellar 3 damp 0;ring p plain places 4;ring c cellar places 3;ring a attic places 5;"
        + "narrow p 2 by 3;narrow a 1 by 0;door p 0 c 0;door p 1 a 2;"
        + "thing x plain in p at 1 size 3;thing y plain in p at 0 size 9;thing z piano in c at 0 size 1;"
        + "thing v pet in a at 2 size 9;thing w broken in a at 0 size 1;thing u plain in c at 2 size 1";
    private static final Checks CHECKS = new Checks("NowTest");

    private NowTest() {
    }

    public static void main(String[] args) {
        rings();
        things();
        places();
        whoGoes();
        fullRing();
        whoMeets();
        withoutHouse();
        CHECKS.end();
    }

    private static void row(String call, NightRound x, int[] got, int[] want) {
        for (int i = 0; i < want.length; i++) {
            CHECKS.due(call + " " + i, got[i], want[i]);
        }
        CHECKS.due(call + ", trouble", x.trouble(), 0);
    }

    private static void rings() {
        NightRound x = Told.house(TEXT);
        row("ring 0", x, new int[] {x.ring(0, 0), x.ring(0, 1), x.ring(0, 2), x.ring(0, 3)}, new int[] {0, 4, 3, 2});
        row("ring 1", x, new int[] {x.ring(1, 0), x.ring(1, 1), x.ring(1, 2), x.ring(1, 3)}, new int[] {1, 3, 36, 1});
        row("ring 2", x, new int[] {x.ring(2, 0), x.ring(2, 1), x.ring(2, 2), x.ring(2, 3)}, new int[] {2, 5, 24, 3});
        CHECKS.refused("ring(3, 0)", x, x.ring(3, 0), 1);
        CHECKS.refused("ring(-1, 0)", x, x.ring(-1, 0), 1);
        CHECKS.refused("ring(0, 4)", x, x.ring(0, 4), 1);
        CHECKS.refused("ring(0, -1)", x, x.ring(0, -1), 1);
        CHECKS.due("put", x.put(5, 0, 3), true);
        CHECKS.due("ring(0, 2) behind put", x.ring(0, 2), 35);
        CHECKS.due("ring(1, 3) behind put", x.ring(1, 3), 2);
    }

    private static void things() {
        NightRound x = Told.house(TEXT);
        int[] kinds = {0, 0, 1, 3, 2, 0};
        int[] sizes = {3, 9, 1, 9, 1, 1};
        int[] rings = {0, 0, 1, 2, 2, 1};
        int[] places = {1, 0, 0, 2, 0, 2};
        for (int t = 0; t < 6; t++) {
            CHECKS.given("thing(" + t + ", 0)", x, x.thing(t, 0), kinds[t]);
            CHECKS.given("thing(" + t + ", 1)", x, x.thing(t, 1), rings[t]);
            CHECKS.given("thing(" + t + ", 2)", x, x.thing(t, 2), places[t]);
            CHECKS.given("thing(" + t + ", 3)", x, x.thing(t, 3), sizes[t]);
            CHECKS.given("thing(" + t + ", 4)", x, x.thing(t, 4), 0);
        }
        CHECKS.refused("thing(6, 0)", x, x.thing(6, 0), 1);
        CHECKS.refused("thing(-1, 0)", x, x.thing(-1, 0), 1);
        CHECKS.refused("thing(0, 5)", x, x.thing(0, 5), 1);
        CHECKS.refused("thing(0, -1)", x, x.thing(0, -1), 1);
        x.hold(2);
        x.put(5, 2, 4);
        CHECKS.given("thing(2, 4)", x, x.thing(2, 4), 1);
        CHECKS.given("thing(5, 1)", x, x.thing(5, 1), 2);
        CHECKS.given("thing(5, 2)", x, x.thing(5, 2), 4);
    }

    private static void places() {
        NightRound x = Told.house(TEXT);
        CHECKS.given("at(0, 1)", x, x.at(0, 1), 0);
        CHECKS.given("at(0, 0)", x, x.at(0, 0), 1);
        CHECKS.given("at(0, 2)", x, x.at(0, 2), -2);
        CHECKS.given("at(2, 4)", x, x.at(2, 4), -2);
        CHECKS.given("at(1, 2)", x, x.at(1, 2), 5);
        CHECKS.refused("at(1, 3)", x, x.at(1, 3), 1);
        CHECKS.refused("at(3, 0)", x, x.at(3, 0), 1);
        CHECKS.refused("at(-1, 0)", x, x.at(-1, 0), 1);
        CHECKS.refused("at(0, -1)", x, x.at(0, -1), 1);
        CHECKS.given("narrow(0, 2)", x, x.narrow(0, 2), 3);
        CHECKS.given("narrow(2, 1)", x, x.narrow(2, 1), 0);
        CHECKS.given("narrow(1, 2)", x, x.narrow(1, 2), -2);
        CHECKS.refused("narrow(1, 3)", x, x.narrow(1, 3), 1);
        CHECKS.refused("narrow(-1, 0)", x, x.narrow(-1, 0), 1);
        CHECKS.refused("narrow(4, 0)", x, x.narrow(4, 0), 1);
        int[] ahead = {2, 1, 1, 1, 4, 0};
        for (int t = 0; t < 6; t++) {
            CHECKS.given("ahead(" + t + ")", x, x.ahead(t), ahead[t]);
        }
        CHECKS.refused("ahead(6)", x, x.ahead(6), 1);
        CHECKS.refused("ahead(-1)", x, x.ahead(-1), 1);
    }

    private static void whoGoes() {
        NightRound x = Told.house(TEXT);
        int[] goes = {11, 1, 1, 0, 0, 0, 0, 0, 36, 0};
        int[] blocked = {0, 8, 40, 9, 9, 41, 9, 9, 9, 9};
        for (int k = 0; k < goes.length; k++) {
            CHECKS.given("goes() behind " + k, x, x.goes(), goes[k]);
            CHECKS.given("blocked() behind " + k, x, x.blocked(), blocked[k]);
            CHECKS.given("night() " + (k + 1), x, x.night(), goes[k]);
        }
        NightRound afresh = Told.house(TEXT);
        afresh.put(3, 2, 1);
        CHECKS.given("blocked() asked first", afresh, afresh.blocked(), 8);
        NightRound held = Told.house(TEXT);
        held.hold(0);
        CHECKS.given("goes() with one held", held, held.goes(), 8);
        CHECKS.given("blocked() with one held", held, held.blocked(), 2);
    }

    private static void fullRing() {
        String ring = "house cellar 1 damp 0;ring r attic places 2;thing a plain in r at 0 size 1;thing b plain in r at 1 size 1";
        NightRound x = Told.house(ring);
        CHECKS.given("goes() in a full ring", x, x.goes(), 3);
        CHECKS.given("night() in a full ring", x, x.night(), 3);
        CHECKS.given("at(0, 0)", x, x.at(0, 0), 1);
        x.hold(1);
        CHECKS.given("goes() behind a held one", x, x.goes(), 0);
        CHECKS.given("blocked() behind a held one", x, x.blocked(), 1);
    }

    private static void whoMeets() {
        NightRound x = Told.house(TEXT);
        CHECKS.given("meeting()", x, x.meeting(), 3);
        x.put(0, 0, 3);
        CHECKS.given("meeting() behind put", x, x.meeting(), 12);
        x.put(1, 1, 1);
        CHECKS.given("meeting() of none", x, x.meeting(), -2);
        x.put(0, 0, 0);
        CHECKS.given("meeting() of others", x, x.meeting(), 2);
    }

    private static void withoutHouse() {
        NightRound x = new NightRound();
        CHECKS.refused("ring", x, x.ring(0, 0), 1);
        CHECKS.refused("thing", x, x.thing(0, 0), 1);
        CHECKS.refused("at", x, x.at(0, 0), 1);
        CHECKS.refused("narrow", x, x.narrow(0, 0), 1);
        CHECKS.refused("ahead", x, x.ahead(0), 1);
        CHECKS.refused("goes", x, x.goes(), 1);
        CHECKS.refused("blocked", x, x.blocked(), 1);
        CHECKS.refused("meeting", x, x.meeting(), 1);
    }
}
