/** Promises 14 to 23, sentence by sentence: the edges of behind, when, meets, still, period, steps, meetings, mostMeet, toWiden, worstHeld. */
public final class NightsEdgesTest {
    private static final Checks CHECKS = new Checks("NightsEdgesTest");
    private static final String HOUSE = "house cellar 5 damp 0;";
    private static final int[] FAR_OFF = {-1, Integer.MIN_VALUE, Integer.MAX_VALUE, 1000};

    private NightsEdgesTest() {
    }

    public static void main(String[] args) {
        behindNights();
        behindRefused();
        whenThere();
        whenRefused();
        whenTheyMeet();
        meetsRefused();
        stills();
        periods();
        stepsOfOne();
        stepsRefused();
        meetingsOfTwo();
        meetingsRefused();
        mostMeetings();
        mostWithin60();
        widest();
        widestWithin60();
        worst();
        worstWithin60();
        worstRefused();
        withoutHouse();
        CHECKS.end();
    }

    private static void nights(NightRound x, int count) {
        for (int k = 0; k < count; k++) {
            x.night();
        }
    }

    /** One that goes each night from place 0 on in a ring of 9, one in a ring of 8, with a door at their places behind so many nights. */
    private static NightRound doorBehind(int nights) {
        return Told.house(HOUSE + "ring r plain places 9;ring q plain places 8;door q " + nights % 8 + " r " + nights % 9
            + ";thing a plain in r at 0 size 1;thing b plain in q at 0 size 1");
    }

    private static void behindNights() {
        CHECKS.promise(14, "The ring and place of a thing behind so many NIGHTS (0 .. 200): 10 times the one and the other.");
        NightRound x = Told.house("house cellar 1 damp 0;ring r plain places 9;ring q plain places 2;ring o plain places 2;ring s attic places 9;"
            + "thing a plain in r at 0 size 1;thing b plain in s at 0 size 1");
        CHECKS.given("behind(0, 0): NOW", x, x.behind(0, 0), 0);
        CHECKS.given("behind(1, 0): NOW", x, x.behind(1, 0), 30);
        CHECKS.given("behind(0, 1)", x, x.behind(0, 1), 1);
        CHECKS.given("behind(1, 1)", x, x.behind(1, 1), 38);
        CHECKS.given("behind(0, 8)", x, x.behind(0, 8), 8);
        CHECKS.given("behind(0, 9)", x, x.behind(0, 9), 0);
        CHECKS.given("behind(0, 199)", x, x.behind(0, 199), 1);
        CHECKS.given("behind(0, 200)", x, x.behind(0, 200), 2);
        CHECKS.given("behind(1, 200)", x, x.behind(1, 200), 37);
    }

    private static void behindRefused() {
        CHECKS.promise(14, "NONE: 1; 2.");
        NightRound x = doorBehind(1);
        CHECKS.refused("behind(2, 0)", x, x.behind(2, 0), 1);
        CHECKS.refused("behind(0, 201)", x, x.behind(0, 201), 2);
        for (int far : FAR_OFF) {
            CHECKS.refused("behind(" + far + ", 0)", x, x.behind(far, 0), 1);
            CHECKS.refused("behind(0, " + far + ")", x, x.behind(0, far), 2);
            CHECKS.refused("behind(2, " + far + "): 1 is named first", x, x.behind(2, far), 1);
        }
    }

    private static void whenThere() {
        CHECKS.promise(15, "FIRST NIGHT at which a thing is in a place of a ring; -2.");
        NightRound x = Told.house(HOUSE + "ring r plain places 9;ring q cellar places 9;ring o attic places 2;"
            + "thing a plain in r at 1 size 1;thing b piano in q at 0 size 1;thing c broken in o at 0 size 1");
        CHECKS.given("when(0, 0, 1): NOW", x, x.when(0, 0, 1), 0);
        CHECKS.given("when(0, 0, 2)", x, x.when(0, 0, 2), 1);
        CHECKS.given("when(0, 0, 0): round the ring", x, x.when(0, 0, 0), 8);
        CHECKS.given("when(0, 1, 1): another ring", x, x.when(0, 1, 1), -2);
        CHECKS.given("when(2, 2, 1): a broken one", x, x.when(2, 2, 1), -2);
        CHECKS.given("when(1, 1, 4)", x, x.when(1, 1, 4), 180);
        CHECKS.given("when(1, 1, 5): behind 225", x, x.when(1, 1, 5), -2);
        nights(x, 25);
        CHECKS.given("when(1, 1, 5): behind 200", x, x.when(1, 1, 5), 200);
        CHECKS.given("when(1, 1, 6): behind 245", x, x.when(1, 1, 6), -2);
    }

    private static void whenRefused() {
        CHECKS.promise(15, "NONE: 1.");
        NightRound x = doorBehind(1);
        CHECKS.refused("when(2, 0, 0)", x, x.when(2, 0, 0), 1);
        CHECKS.refused("when(0, 2, 0)", x, x.when(0, 2, 0), 1);
        CHECKS.refused("when(0, 0, 9)", x, x.when(0, 0, 9), 1);
        CHECKS.refused("when(0, 1, 8)", x, x.when(0, 1, 8), 1);
        for (int far : FAR_OFF) {
            CHECKS.refused("when(" + far + ", 0, 0)", x, x.when(far, 0, 0), 1);
            CHECKS.refused("when(0, " + far + ", 0)", x, x.when(0, far, 0), 1);
            CHECKS.refused("when(0, 0, " + far + ")", x, x.when(0, 0, far), 1);
        }
    }

    private static void whenTheyMeet() {
        CHECKS.promise(16, "FIRST NIGHT at which two MEET; -2.");
        for (int k : new int[] {0, 1, 8, 9, 60, 61, 71}) {
            NightRound x = doorBehind(k);
            CHECKS.given("meets(0, 1) behind " + k, x, x.meets(0, 1), k);
            CHECKS.given("meets(1, 0) behind " + k, x, x.meets(1, 0), k);
        }
        NightRound never = Told.house(HOUSE + "ring r plain places 2;ring q plain places 2;door r 0 q 1;"
            + "thing a plain in r at 0 size 1;thing b plain in q at 0 size 1");
        CHECKS.given("meets(0, 1) never", never, never.meets(0, 1), -2);
    }

    private static void meetsRefused() {
        CHECKS.promise(16, "NONE: 1 (unlike).");
        NightRound x = doorBehind(0);
        CHECKS.refused("meets(0, 0)", x, x.meets(0, 0), 1);
        CHECKS.refused("meets(1, 1)", x, x.meets(1, 1), 1);
        CHECKS.refused("meets(0, 2)", x, x.meets(0, 2), 1);
        CHECKS.refused("meets(2, 0)", x, x.meets(2, 0), 1);
        for (int far : FAR_OFF) {
            CHECKS.refused("meets(0, " + far + ")", x, x.meets(0, far), 1);
            CHECKS.refused("meets(" + far + ", 0)", x, x.meets(far, 0), 1);
            CHECKS.refused("meets(" + far + ", " + far + ")", x, x.meets(far, far), 1);
        }
    }

    private static void stills() {
        CHECKS.promise(17, "FIRST NIGHT behind which nothing GOES in the one that comes; -2.");
        for (int steps = 0; steps <= 8; steps++) {
            NightRound x = Told.house(HOUSE + "ring r plain places 9;narrow r 8 by 0;thing a plain in r at " + (16 - steps) % 9 + " size 1");
            CHECKS.given("still() behind " + steps, x, x.still(), steps);
        }
        NightRound ever = doorBehind(0);
        CHECKS.given("still() of one that goes for ever", ever, ever.still(), -2);
        NightRound none = Told.house(HOUSE + "ring r plain places 2");
        CHECKS.given("still() without things", none, none.still(), 0);
        NightRound cellar = Told.house(HOUSE + "ring r cellar places 2;thing a plain in r at 0 size 1");
        CHECKS.given("still(): a cellar that doesn't go on night 1", cellar, cellar.still(), 0);
        nights(cellar, 4);
        CHECKS.given("still(): it goes on night 5, not on 6", cellar, cellar.still(), 1);
    }

    private static void periods() {
        CHECKS.promise(18, "PERIOD; -2.");
        NightRound x = doorBehind(0);
        CHECKS.given("period() of 9 and 8", x, x.period(), 72);
        NightRound never = Told.house(HOUSE + "ring r plain places 9;narrow r 8 by 0;thing a plain in r at 6 size 1");
        CHECKS.given("period() of one that never comes back", never, never.period(), -2);
        nights(never, 1);
        CHECKS.given("period() of one that stays", never, never.period(), 1);
        NightRound longer = Told.house(HOUSE + "ring r plain places 9;ring q plain places 8;ring o plain places 7;"
            + "thing a plain in r at 0 size 1;thing b plain in q at 0 size 1;thing c plain in o at 0 size 1");
        CHECKS.given("period() of 504", longer, longer.period(), -2);
    }

    private static void stepsOfOne() {
        CHECKS.promise(19, "How many times a thing GOES in so many NIGHTS (0 .. 200).");
        NightRound x = Told.house(HOUSE + "ring r plain places 9;ring q cellar places 9;thing a plain in r at 0 size 1;"
            + "thing b plain in q at 0 size 1;thing c broken in q at 5 size 1");
        for (int n : new int[] {0, 1, 199, 200}) {
            CHECKS.given("steps(0, " + n + ")", x, x.steps(0, n), n);
        }
        CHECKS.given("steps(1, 4)", x, x.steps(1, 4), 0);
        CHECKS.given("steps(1, 5)", x, x.steps(1, 5), 1);
        CHECKS.given("steps(1, 19)", x, x.steps(1, 19), 3);
        CHECKS.given("steps(1, 200) up to a broken one", x, x.steps(1, 200), 4);
        CHECKS.given("steps(2, 200)", x, x.steps(2, 200), 0);
    }

    private static void stepsRefused() {
        CHECKS.promise(19, "NONE: 1; 2.");
        NightRound x = doorBehind(0);
        CHECKS.refused("steps(2, 0)", x, x.steps(2, 0), 1);
        CHECKS.refused("steps(0, 201)", x, x.steps(0, 201), 2);
        for (int far : FAR_OFF) {
            CHECKS.refused("steps(" + far + ", 0)", x, x.steps(far, 0), 1);
            CHECKS.refused("steps(0, " + far + ")", x, x.steps(0, far), 2);
            CHECKS.refused("steps(2, " + far + "): 1 is named first", x, x.steps(2, far), 1);
        }
    }

    private static void meetingsOfTwo() {
        CHECKS.promise(20, "How many of so many NIGHTS (0 .. 200) two MEET behind.");
        NightRound x = doorBehind(0);
        CHECKS.given("meetings(0, 1, 0): NOW isn't counted", x, x.meetings(0, 1, 0), 0);
        CHECKS.given("meetings(0, 1, 71)", x, x.meetings(0, 1, 71), 0);
        CHECKS.given("meetings(0, 1, 72)", x, x.meetings(0, 1, 72), 1);
        CHECKS.given("meetings(1, 0, 144)", x, x.meetings(1, 0, 144), 2);
        x.hold(0);
        x.hold(1);
        CHECKS.given("meetings(0, 1, 200)", x, x.meetings(0, 1, 200), 200);
        NightRound last = doorBehind(200);
        CHECKS.given("meetings(0, 1, 199)", last, last.meetings(0, 1, 199), 2);
        CHECKS.given("meetings(0, 1, 200)", last, last.meetings(0, 1, 200), 3);
    }

    private static void meetingsRefused() {
        CHECKS.promise(20, "NONE: 1 (unlike); 2.");
        NightRound x = doorBehind(0);
        CHECKS.refused("meetings(0, 0, 1)", x, x.meetings(0, 0, 1), 1);
        CHECKS.refused("meetings(0, 2, 1)", x, x.meetings(0, 2, 1), 1);
        CHECKS.refused("meetings(2, 0, 1)", x, x.meetings(2, 0, 1), 1);
        CHECKS.refused("meetings(0, 1, 201)", x, x.meetings(0, 1, 201), 2);
        for (int far : FAR_OFF) {
            CHECKS.refused("meetings(0, " + far + ", 0)", x, x.meetings(0, far, 0), 1);
            CHECKS.refused("meetings(" + far + ", 0, 0)", x, x.meetings(far, 0, 0), 1);
            CHECKS.refused("meetings(0, 1, " + far + ")", x, x.meetings(0, 1, far), 2);
            CHECKS.refused("meetings(1, 1, " + far + "): 1 is named first", x, x.meetings(1, 1, far), 1);
        }
    }

    private static void mostMeetings() {
        CHECKS.promise(21, "10 times the lesser and the other one, the first such; -2 none do.");
        String start = HOUSE + "ring r plain places 9;ring q plain places 9;thing a plain in q at 0 size 1;thing b broken in r at 0 size 1;"
            + "thing c broken in r at 2 size 1;thing d broken in r at 4 size 1;thing e broken in r at 6 size 1";
        NightRound most = Told.house(start + ";door q 1 r 0;door r 6 r 4;door q 2 r 2");
        CHECKS.given("mostMeet(): each night", most, most.mostMeet(), 34);
        NightRound alike = Told.house(start + ";door r 6 r 4;door r 2 r 6;door r 4 r 2");
        CHECKS.given("mostMeet(): the first by numbers", alike, alike.mostMeet(), 23);
        NightRound none = Told.house(start + ";door r 0 r 1");
        CHECKS.given("mostMeet() of none", none, none.mostMeet(), -2);
        NightRound doorless = Told.house(start);
        CHECKS.given("mostMeet() without doors", doorless, doorless.mostMeet(), -2);
        NightRound twoDoors = Told.house(start + ";door q 0 r 2;door q 3 r 2;door q 1 r 0");
        CHECKS.given("mostMeet(): all doors of two are counted", twoDoors, twoDoors.mostMeet(), 2);
        CHECKS.given("mostMeet() asked again", most, most.mostMeet(), 34);
        most.put(3, 0, 5);
        CHECKS.given("mostMeet() when they don't any more", most, most.mostMeet(), 1);
    }

    private static void mostWithin60() {
        CHECKS.promise(21, "The two that MEET behind most of the next 60 NIGHTS");
        int[] nights = {1, 59, 60, 61, 71, 72, 0};
        int[] due = {1, 1, 1, -2, -2, -2, -2};
        for (int i = 0; i < nights.length; i++) {
            NightRound x = doorBehind(nights[i]);
            CHECKS.given("mostMeet() behind " + nights[i], x, x.mostMeet(), due[i]);
        }
    }

    private static void widest() {
        CHECKS.promise(22, "10 times the ring and it, the first such by rings, places; -2 by none more than as it is.");
        String ends = HOUSE + "ring o plain places 2;ring p plain places 2;ring q plain places 2;ring r plain places 9;";
        NightRound last = Told.house(ends + "narrow o 0 by 0;narrow r 8 by 3;thing a plain in r at 0 size 4");
        CHECKS.given("toWiden(): the last place", last, last.toWiden(), 38);
        NightRound first = Told.house(ends + "narrow r 8 by 3;narrow o 0 by 3;thing a plain in o at 1 size 4;thing b broken in r at 7 size 4");
        CHECKS.given("toWiden(): the first place", first, first.toWiden(), 0);
        NightRound alike = Told.house(ends + "narrow q 1 by 0;narrow p 1 by 0;thing a plain in q at 0 size 1;thing b plain in p at 0 size 1");
        CHECKS.given("toWiden(): the first of alike by rings", alike, alike.toWiden(), 11);
        NightRound places = Told.house(HOUSE + "ring r plain places 8;narrow r 5 by 0;narrow r 1 by 0;thing a plain in r at 0 size 1;thing b plain in r at 4 size 1");
        CHECKS.given("toWiden(): the first of alike by places", places, places.toWiden(), 1);
        NightRound wide = Told.house(ends + "narrow r 8 by 4;thing a plain in r at 0 size 4");
        CHECKS.given("toWiden(): none keeps one", wide, wide.toWiden(), -2);
        NightRound none = Told.house(ends + "thing a plain in r at 0 size 4");
        CHECKS.given("toWiden() without narrow places", none, none.toWiden(), -2);
        NightRound less = Told.house(ends + "narrow r 8 by 0;narrow r 0 by 0;thing a plain in r at 7 size 1");
        CHECKS.given("toWiden(): one step more", less, less.toWiden(), 38);
        CHECKS.due("narrow(3, 8) is as it was", less.narrow(3, 8), 0);
    }

    /* The piano goes on nights 45 and 90: with the second step it would come to the narrow place. */
    private static void widestWithin60() {
        CHECKS.promise(22, "The narrow place by which, weren't it narrow, most GO in 60 NIGHTS, all counted");
        NightRound x = Told.house(HOUSE + "ring r cellar places 9;narrow r 2 by 0;thing a piano in r at 0 size 1");
        nights(x, 29);
        CHECKS.given("toWiden(): the step is the 61st night's", x, x.toWiden(), -2);
        nights(x, 1);
        CHECKS.given("toWiden(): the step is the 60th night's", x, x.toWiden(), 2);
        NightRound all = Told.house(HOUSE + "ring r plain places 9;ring q plain places 9;narrow r 1 by 0;narrow q 1 by 0;thing a plain in r at 0 size 1;"
            + "thing b plain in q at 0 size 1;thing c plain in q at 8 size 1");
        CHECKS.given("toWiden(): all counted", all, all.toWiden(), 11);
    }

    private static void worst() {
        CHECKS.promise(23, "the first such; -2 none is there.");
        NightRound none = Told.house(HOUSE + "ring r plain places 2");
        CHECKS.given("worstHeld(0) of none", none, none.worstHeld(0), -2);
        CHECKS.given("worstHeld(60) of none", none, none.worstHeld(60), -2);
        NightRound alike = Told.house(HOUSE + "ring r plain places 9;ring q plain places 9;thing a broken in r at 0 size 1;thing b plain in q at 0 size 1;"
            + "thing c plain in r at 1 size 1");
        CHECKS.given("worstHeld(0): all alike", alike, alike.worstHeld(0), 0);
        CHECKS.given("worstHeld(1): the first of alike", alike, alike.worstHeld(1), 1);
        CHECKS.given("worstHeld(60)", alike, alike.worstHeld(60), 1);
        alike.hold(1);
        CHECKS.given("worstHeld(1) with one held", alike, alike.worstHeld(1), 2);
        alike.hold(2);
        CHECKS.given("worstHeld(60) with all held", alike, alike.worstHeld(60), 0);
        NightRound last = Told.house(HOUSE + "ring r plain places 9;thing a broken in r at 0 size 1;thing b broken in r at 1 size 1;thing c broken in r at 2 size 1;"
            + "thing d broken in r at 3 size 1;thing e broken in r at 4 size 1;thing f broken in r at 5 size 1;thing g plain in r at 6 size 1");
        CHECKS.given("worstHeld(1): the last thing", last, last.worstHeld(1), 6);
    }

    /* On night 3 one has six steps ahead of it, the piano goes on night 63 for the seventh time. */
    private static void worstWithin60() {
        CHECKS.promise(23, "The thing by which, held from NOW on, fewest GO in so many NIGHTS (0 .. 60), all counted");
        NightRound x = Told.house(HOUSE + "ring r plain places 9;ring q plain places 9;narrow r 7 by 0;"
            + "thing a plain in r at 0 size 1;thing b piano in q at 0 size 1");
        nights(x, 3);
        x.put(0, 0, 0);
        CHECKS.given("worstHeld(59): six and six", x, x.worstHeld(59), 0);
        CHECKS.given("worstHeld(60): six and seven", x, x.worstHeld(60), 1);
        CHECKS.given("worstHeld(5)", x, x.worstHeld(5), 0);
        NightRound all = Told.house(HOUSE + "ring r plain places 9;ring q plain places 9;thing a plain in q at 0 size 1;thing b plain in r at 0 size 1;"
            + "thing c plain in r at 1 size 1");
        CHECKS.given("worstHeld(2): all counted", all, all.worstHeld(2), 2);
    }

    private static void worstRefused() {
        CHECKS.promise(23, "NONE: 1 (no HOUSE); 2.");
        NightRound x = doorBehind(0);
        CHECKS.refused("worstHeld(61)", x, x.worstHeld(61), 2);
        NightRound none = new NightRound();
        CHECKS.refused("worstHeld(0) without a house", none, none.worstHeld(0), 1);
        for (int far : FAR_OFF) {
            CHECKS.refused("worstHeld(" + far + ")", x, x.worstHeld(far), 2);
            CHECKS.refused("worstHeld(" + far + ") without a house", none, none.worstHeld(far), 1);
        }
    }

    private static void withoutHouse() {
        NightRound x = new NightRound();
        CHECKS.promise(17, "NONE: 1 (no HOUSE).");
        CHECKS.refused("still()", x, x.still(), 1);
        CHECKS.promise(18, "NONE: 1 (no HOUSE).");
        CHECKS.refused("period()", x, x.period(), 1);
        CHECKS.promise(21, "NONE: 1 (no HOUSE).");
        CHECKS.refused("mostMeet()", x, x.mostMeet(), 1);
        CHECKS.promise(22, "NONE: 1 (no HOUSE).");
        CHECKS.refused("toWiden()", x, x.toWiden(), 1);
    }
}
