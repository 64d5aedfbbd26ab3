/** Promises 14 to 23: behind, when, meets, still, period, steps, meetings, mostMeet, toWiden, worstHeld. */
public final class NightsTest {
    private static final Checks CHECKS = new Checks("NightsTest");
    private static final String CIRCLE = "house cellar 2 damp 0;ring r plain places 4;ring c cellar places 3;"
        + "thing a plain in r at 0 size 5;thing b plain in c at 0 size 5;";

    private NightsTest() {
    }

    public static void main(String[] args) {
        behindNights();
        firstNights();
        stillAndPeriod();
        stepsAndMeetings();
        mostMeeting();
        widening();
        worst();
        wrongNumbers();
        withoutHouse();
        nothingChanges();
        CHECKS.end();
    }

    private static void behindNights() {
        NightRound x = Told.house(NowTest.TEXT);
        CHECKS.given("behind(0, 0)", x, x.behind(0, 0), 1);
        CHECKS.given("behind(0, 2)", x, x.behind(0, 2), 3);
        CHECKS.given("behind(0, 3)", x, x.behind(0, 3), 0);
        CHECKS.given("behind(1, 200)", x, x.behind(1, 200), 1);
        CHECKS.given("behind(2, 8)", x, x.behind(2, 8), 10);
        CHECKS.given("behind(2, 9)", x, x.behind(2, 9), 11);
        CHECKS.given("behind(2, 18)", x, x.behind(2, 18), 12);
        CHECKS.given("behind(2, 27)", x, x.behind(2, 27), 10);
        CHECKS.given("behind(5, 8)", x, x.behind(5, 8), 12);
        CHECKS.given("behind(5, 18)", x, x.behind(5, 18), 11);
        CHECKS.given("behind(3, 1)", x, x.behind(3, 1), 21);
        x.night();
        CHECKS.given("behind(2, 8) behind a night", x, x.behind(2, 8), 11);
    }

    private static void firstNights() {
        NightRound x = Told.house(NowTest.TEXT);
        CHECKS.given("when(0, 0, 1)", x, x.when(0, 0, 1), 0);
        CHECKS.given("when(0, 0, 3)", x, x.when(0, 0, 3), 2);
        CHECKS.given("when(2, 1, 2)", x, x.when(2, 1, 2), 18);
        CHECKS.given("when(1, 0, 3)", x, x.when(1, 0, 3), -2);
        CHECKS.given("when(0, 1, 1)", x, x.when(0, 1, 1), -2);
        CHECKS.refused("when(6, 0, 0)", x, x.when(6, 0, 0), 1);
        CHECKS.refused("when(0, 3, 0)", x, x.when(0, 3, 0), 1);
        CHECKS.refused("when(0, 0, 4)", x, x.when(0, 0, 4), 1);
        CHECKS.refused("when(0, 0, -1)", x, x.when(0, 0, -1), 1);
        CHECKS.given("meets(1, 2)", x, x.meets(1, 2), 0);
        CHECKS.given("meets(2, 0)", x, x.meets(2, 0), 3);
        CHECKS.given("meets(0, 5)", x, x.meets(0, 5), 9);
        CHECKS.given("meets(1, 3)", x, x.meets(1, 3), -2);
        CHECKS.refused("meets(1, 1)", x, x.meets(1, 1), 1);
        CHECKS.refused("meets(1, 6)", x, x.meets(1, 6), 1);
        CHECKS.refused("meets(-1, 0)", x, x.meets(-1, 0), 1);
        lastFirstNight();
    }

    /* A piano in a cellar of five goes every 45th night: at its fifth place behind 180, a sixth comes too late. */
    private static void lastFirstNight() {
        String text = "house cellar 5 damp 0;ring c cellar places 6;ring r plain places 2;door r 1 c 5;"
            + "thing p piano in c at 0 size 1;thing b broken in r at 1 size 1";
        NightRound x = Told.house(text);
        CHECKS.given("when(0, 0, 4)", x, x.when(0, 0, 4), 180);
        CHECKS.given("when(0, 0, 5)", x, x.when(0, 0, 5), -2);
        for (int i = 0; i < 24; i++) {
            x.night();
        }
        CHECKS.given("when(0, 0, 5) one night short", x, x.when(0, 0, 5), -2);
        CHECKS.given("meets(0, 1) one night short", x, x.meets(0, 1), -2);
        x.night();
        CHECKS.given("when(0, 0, 5) at the 200th", x, x.when(0, 0, 5), 200);
        CHECKS.given("meets(0, 1) at the 200th", x, x.meets(0, 1), 200);
    }

    private static void stillAndPeriod() {
        NightRound x = Told.house(NowTest.TEXT);
        CHECKS.given("still()", x, x.still(), 3);
        CHECKS.given("period()", x, x.period(), -2);
        NightRound circle = Told.house(CIRCLE + "found 1 at 1");
        CHECKS.given("still() in circles", circle, circle.still(), -2);
        CHECKS.given("period() of 4 and 2 times 3", circle, circle.period(), 12);
        circle.hold(0);
        CHECKS.given("still() with one held", circle, circle.still(), 0);
        CHECKS.given("period() with one held", circle, circle.period(), 1);
        circle.hold(1);
        CHECKS.given("period() with all held", circle, circle.period(), 1);
        longPeriods();
    }

    private static void longPeriods() {
        CHECKS.due("period() of 200", periodFrom44(5), 200);
        CHECKS.due("period() of 224", periodFrom44(7), -2);
        NightRound latest = Told.house("house cellar 1 damp 0;ring a plain places 2;narrow a 1 by 0;thing x plain in a at 1 size 1");
        CHECKS.given("still() behind one step", latest, latest.still(), 1);
    }

    /* The piano goes on each 45th night: away at once, it is back behind 181 nights and goes again behind 225. */
    private static int periodFrom44(int places) {
        NightRound x = Told.house("house cellar 5 damp 0;ring c cellar places 5;ring a plain places 8;ring b plain places " + places
            + ";thing p piano in c at 0 size 1;thing x plain in a at 0 size 1;thing y plain in b at 0 size 1");
        for (int k = 0; k < 44; k++) {
            x.night();
        }
        return x.period();
    }

    private static void stepsAndMeetings() {
        NightRound x = Told.house(NowTest.TEXT);
        CHECKS.given("steps(0, 200)", x, x.steps(0, 200), 3);
        CHECKS.given("steps(1, 200)", x, x.steps(1, 200), 1);
        CHECKS.given("steps(2, 8)", x, x.steps(2, 8), 0);
        CHECKS.given("steps(2, 9)", x, x.steps(2, 9), 1);
        CHECKS.given("steps(5, 200)", x, x.steps(5, 200), 22);
        CHECKS.given("steps(4, 200)", x, x.steps(4, 200), 0);
        CHECKS.given("steps(0, 0)", x, x.steps(0, 0), 0);
        CHECKS.given("meetings(0, 2, 200)", x, x.meetings(0, 2, 200), 69);
        CHECKS.given("meetings(2, 0, 3)", x, x.meetings(2, 0, 3), 1);
        CHECKS.given("meetings(0, 2, 2)", x, x.meetings(0, 2, 2), 0);
        CHECKS.given("meetings(1, 2, 0)", x, x.meetings(1, 2, 0), 0);
        CHECKS.given("meetings(1, 2, 5) of two that meet now alone", x, x.meetings(1, 2, 5), 0);
        CHECKS.refused("meetings(2, 2, 5)", x, x.meetings(2, 2, 5), 1);
        CHECKS.refused("meetings(2, 6, 5)", x, x.meetings(2, 6, 5), 1);
    }

    private static void mostMeeting() {
        NightRound x = Told.house(NowTest.TEXT);
        CHECKS.given("mostMeet()", x, x.mostMeet(), 2);
        x.hold(2);
        x.hold(0);
        CHECKS.given("mostMeet() with two held", x, x.mostMeet(), 12);
        NightRound none = Told.house(CIRCLE + "door r 0 r 1");
        CHECKS.given("mostMeet() of none", none, none.mostMeet(), -2);
        /* Both pairs meet on half of the nights: the first by numbers is told, not by doors. */
        NightRound alike = Told.house("house cellar 1 damp 0;ring r plain places 2;ring q plain places 2;ring o plain places 2;"
            + "door q 0 o 0;door r 0 q 1;"
            + "thing a plain in r at 0 size 1;thing b plain in q at 1 size 1;thing c plain in o at 1 size 1");
        CHECKS.given("mostMeet() of alike", alike, alike.mostMeet(), 1);
    }

    private static void widening() {
        NightRound x = Told.house(NowTest.TEXT);
        CHECKS.given("toWiden()", x, x.toWiden(), 2);
        x.hold(1);
        CHECKS.given("toWiden() by none more", x, x.toWiden(), -2);
        NightRound y = Told.house(CIRCLE + "narrow c 2 by 4;narrow r 3 by 4;narrow r 1 by 5");
        CHECKS.given("toWiden() by rings, not as told", y, y.toWiden(), 3);
        y.put(0, 0, 3);
        CHECKS.given("toWiden() again", y, y.toWiden(), 3);
        NightRound two = Told.house(CIRCLE + "narrow c 2 by 0");
        CHECKS.given("toWiden() in the second ring", two, two.toWiden(), 12);
        NightRound alike = Told.house("house cellar 1 damp 0;ring r plain places 4;thing a plain in r at 0 size 5;"
            + "thing b plain in r at 2 size 5;narrow r 3 by 4;narrow r 1 by 4");
        CHECKS.given("toWiden() of alike", alike, alike.toWiden(), 1);
        NightRound first = Told.house(CIRCLE + "narrow r 0 by 4");
        CHECKS.given("toWiden() of the first place", first, first.toWiden(), 0);
        CHECKS.given("narrow() is as it was", alike, alike.narrow(0, 1), 4);
    }

    private static void worst() {
        NightRound x = Told.house(NowTest.TEXT);
        CHECKS.given("worstHeld(60)", x, x.worstHeld(60), 2);
        CHECKS.given("worstHeld(8)", x, x.worstHeld(8), 0);
        CHECKS.given("worstHeld(0)", x, x.worstHeld(0), 0);
        NightRound none = Told.house("house cellar 1 damp 0;ring r plain places 2");
        CHECKS.given("worstHeld(9) of none", none, none.worstHeld(9), -2);
        NightRound circle = Told.house(CIRCLE + "thing d broken in c at 2 size 1");
        circle.hold(0);
        CHECKS.given("worstHeld(9) of one not held", circle, circle.worstHeld(9), 1);
    }

    private static void wrongNumbers() {
        NightRound x = Told.house(NowTest.TEXT);
        CHECKS.refused("behind(0, -1)", x, x.behind(0, -1), 2);
        CHECKS.refused("behind(0, 201)", x, x.behind(0, 201), 2);
        CHECKS.refused("behind(6, 201)", x, x.behind(6, 201), 1);
        CHECKS.refused("steps(0, -1)", x, x.steps(0, -1), 2);
        CHECKS.refused("steps(0, 201)", x, x.steps(0, 201), 2);
        CHECKS.refused("steps(-1, 201)", x, x.steps(-1, 201), 1);
        CHECKS.refused("meetings(0, 1, -1)", x, x.meetings(0, 1, -1), 2);
        CHECKS.refused("meetings(0, 1, 201)", x, x.meetings(0, 1, 201), 2);
        CHECKS.refused("meetings(1, 1, 201)", x, x.meetings(1, 1, 201), 1);
        CHECKS.refused("worstHeld(-1)", x, x.worstHeld(-1), 2);
        CHECKS.refused("worstHeld(61)", x, x.worstHeld(61), 2);
    }

    private static void withoutHouse() {
        NightRound x = new NightRound();
        CHECKS.refused("behind", x, x.behind(0, 201), 1);
        CHECKS.refused("when", x, x.when(0, 0, 0), 1);
        CHECKS.refused("meets", x, x.meets(0, 1), 1);
        CHECKS.refused("still", x, x.still(), 1);
        CHECKS.refused("period", x, x.period(), 1);
        CHECKS.refused("steps", x, x.steps(0, 0), 1);
        CHECKS.refused("meetings", x, x.meetings(0, 1, 0), 1);
        CHECKS.refused("mostMeet", x, x.mostMeet(), 1);
        CHECKS.refused("toWiden", x, x.toWiden(), 1);
        CHECKS.refused("worstHeld", x, x.worstHeld(61), 1);
    }

    private static void nothingChanges() {
        NightRound x = Told.house(NowTest.TEXT);
        x.behind(0, 5);
        x.toWiden();
        x.worstHeld(7);
        x.mostMeet();
        CHECKS.due("size(9)", x.size(9), 0);
        CHECKS.due("size(10)", x.size(10), 0);
        CHECKS.due("thing(0, 2)", x.thing(0, 2), 1);
        CHECKS.due("thing(0, 4)", x.thing(0, 4), 0);
        CHECKS.due("goes()", x.goes(), 11);
    }
}
