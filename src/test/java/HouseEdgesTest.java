/** Promises 1 to 5, sentence by sentence: the edges of a new object, feed, house, fault, where. */
public final class HouseEdgesTest {
    private static final Checks CHECKS = new Checks("HouseEdgesTest");
    private static final String HOUSE = "house cellar 1 damp 0;ring r plain places 3;thing t plain in r at 0 size 1";
    private static final int BLANKS = 0x20202020;

    private HouseEdgesTest() {
    }

    public static void main(String[] args) {
        newObject();
        bytesOfFeed();
        fullTape();
        answersOfHouse();
        partOfTape();
        afresh();
        nothingOfBefore();
        refusedByNumber();
        refusedByFault();
        faults();
        places();
        CHECKS.end();
    }

    private static void newObject() {
        CHECKS.promise(1, "No HOUSE.");
        NightRound x = new NightRound();
        CHECKS.due("trouble()", x.trouble(), 0);
        CHECKS.due("fault()", x.fault(), 0);
        CHECKS.due("where()", x.where(), -1);
        for (int what = 0; what <= 12; what++) {
            CHECKS.due("size(" + what + ")", x.size(what), 0);
        }
        CHECKS.refused("goes()", x, x.goes(), 1);
        CHECKS.refused("ring(0, 0)", x, x.ring(0, 0), 1);
        CHECKS.refused("thing(0, 0)", x, x.thing(0, 0), 1);
    }

    private static void bytesOfFeed() {
        CHECKS.promise(2, "Twenty bytes come behind THE TAPE, of each number the highest first: how many it has;");
        for (int place = 0; place < 20; place++) {
            int[] five = {BLANKS, BLANKS, BLANKS, BLANKS, BLANKS};
            int shift = 24 - place % 4 * 8;
            five[place / 4] = five[place / 4] & ~(255 << shift) | 255 << shift;
            NightRound x = new NightRound();
            CHECKS.due("feed", x.feed(five[0], five[1], five[2], five[3], five[4]), 20);
            CHECKS.refused("house(20)", x, x.house(20), 4);
            CHECKS.due("where() of byte " + place, x.where(), place);
        }
        NightRound x = new NightRound();
        CHECKS.due("first feed", x.feed(BLANKS, BLANKS, BLANKS, BLANKS, BLANKS), 20);
        CHECKS.due("second feed", x.feed(Integer.MIN_VALUE, Integer.MAX_VALUE, -1, 0, 1), 40);
        CHECKS.refused("house(40)", x, x.house(40), 4);
        CHECKS.due("where(): behind the first feed", x.where(), 20);
        CHECKS.due("a feed behind house", x.feed(0, 0, 0, 0, 0), 20);
    }

    private static void fullTape() {
        CHECKS.promise(2, "NONE, and none comes, if there would be more than 900.");
        NightRound x = new NightRound();
        Told.feed(x, HOUSE);
        for (int has = x.size(12) + 20; has <= 900; has += 20) {
            CHECKS.due("feed", x.feed(BLANKS, BLANKS, BLANKS, BLANKS, BLANKS), has);
        }
        CHECKS.due("trouble() ahead", x.trouble(), 0);
        CHECKS.due("feed of a full tape", x.feed(-1, -1, -1, -1, -1), -1);
        CHECKS.due("feed of a full tape again", x.feed(-1, -1, -1, -1, -1), -1);
        CHECKS.due("trouble() stays", x.trouble(), 0);
        CHECKS.due("size(12)", x.size(12), 900);
        CHECKS.given("house(900), none came", x, x.house(900), 1);
        CHECKS.due("size(12)", x.size(12), 0);
        CHECKS.due("feed behind house", x.feed(BLANKS, BLANKS, BLANKS, BLANKS, BLANKS), 20);
    }

    private static void answersOfHouse() {
        CHECKS.promise(3, "how many rings");
        StringBuilder text = new StringBuilder("house cellar 1 damp 0");
        for (int rings = 1; rings <= 4; rings++) {
            text.append(";ring ").append((char) ('a' + rings)).append(" plain places 2");
            NightRound x = new NightRound();
            CHECKS.given("house", x, Told.tell(x, text.toString()), rings);
        }
    }

    private static void partOfTape() {
        CHECKS.promise(3, "The first n bytes of THE TAPE (it is empty then) are the HOUSE from now on");
        NightRound x = new NightRound();
        Told.feed(x, HOUSE + ";ring q plain places 2 ?");
        CHECKS.given("house of the first bytes alone", x, x.house(HOUSE.length()), 1);
        CHECKS.due("size(12)", x.size(12), 0);
        CHECKS.refused("house(1) of none left", x, x.house(1), 2);
        Told.feed(x, "house cellar 12");
        CHECKS.refused("house: a WHOLE cut off", x, x.house(14), 4);
        CHECKS.due("fault(): the end behind 1", x.fault(), 1);
        CHECKS.due("where()", x.where(), 14);
        Told.feed(x, HOUSE + "0");
        CHECKS.given("house: a WHOLE cut off within bounds", x, x.house(HOUSE.length()), 1);
        CHECKS.due("thing(0, 3)", x.thing(0, 3), 1);
        Told.feed(x, "house cellars");
        CHECKS.refused("house: a WORD cut off", x, x.house(12), 4);
        CHECKS.due("where(): the end behind cellar", x.where(), 12);
        Told.feed(x, HOUSE + ";rings");
        CHECKS.refused("house: a WORD cut off", x, x.house(HOUSE.length() + 5), 4);
        CHECKS.due("where(): the end behind ring", x.where(), HOUSE.length() + 5);
        CHECKS.refused("house(0): an empty text", x, x.house(0), 4);
        CHECKS.due("fault()", x.fault(), 1);
        CHECKS.due("where()", x.where(), 0);
    }

    private static void afresh() {
        CHECKS.promise(3, "(night 0, nothing held; nothing to undo, no IMAGES)");
        NightRound x = Twins.busy();
        CHECKS.given("house(55)", x, x.house(55), 1);
        CHECKS.due("size(9)", x.size(9), 0);
        CHECKS.due("size(10)", x.size(10), 0);
        CHECKS.due("size(11)", x.size(11), 0);
        CHECKS.due("size(12)", x.size(12), 0);
        CHECKS.refused("undo()", x, x.undo(), 6);
        CHECKS.refused("back(0)", x, x.back(0), 1);
        NightRound again = Told.house(HOUSE);
        again.hold(0);
        Told.tell(again, HOUSE);
        CHECKS.due("thing(0, 4)", again.thing(0, 4), 0);
        CHECKS.due("night()", again.night(), 1);
        Told.tell(again, HOUSE);
        CHECKS.due("thing(0, 2)", again.thing(0, 2), 0);
    }

    /* Of larger houses told before, a faulty one among them, nothing is left. */
    private static void nothingOfBefore() {
        CHECKS.promise(3, "are the HOUSE from now on");
        String[] texts = {"house cellar 1 damp 0;ring r plain places 9", HOUSE, HOUSE + ";want t in r at 1 night 1 pays 1;lost 5 at 5",
            "house cellar 3 damp 9;ring p plain places 9;ring c plain places 2;ring a plain places 9;thing t plain in a at 8 size 1;"
            + "thing u plain in p at 7 size 9;thing v plain in c at 0 size 1;door p 0 p 1"};
        for (String text : texts) {
            NightRound x = Told.house(Told.FULLEST);
            x.night();
            x.goes();
            x.mostMeet();
            x.look();
            x.best(60);
            Told.tell(x, Told.FULLEST);
            x.hold(6);
            x.look();
            Told.tell(x, Told.FULLEST + ";");
            Told.tell(x, text);
            NightRound alone = Told.house(text);
            CHECKS.due("answers of " + text, Twins.answers(x), Twins.answers(alone));
            CHECKS.due("all of " + text, Twins.seen(x), Twins.seen(alone));
        }
    }

    private static void refusedByNumber() {
        CHECKS.promise(3, "NONE: 2 (THE TAPE stays);");
        for (int n : new int[] {61, 62, 900, 901, -1, Integer.MIN_VALUE, Integer.MAX_VALUE}) {
            NightRound x = Twins.busy();
            CHECKS.due("size(12)", x.size(12), 60);
            CHECKS.refused("house(" + n + ")", x, x.house(n), 2);
            CHECKS.due("where()", x.where(), -1);
            CHECKS.due("fault() of the one before", x.fault(), 4);
            CHECKS.due("all behind house(" + n + ")", Twins.seen(x), Twins.seen(Twins.busy()));
        }
        NightRound x = Twins.busy();
        x.house(61);
        CHECKS.due("size(12)", x.size(12), 60);
        CHECKS.given("house(60) of the tape that stayed", x, x.house(60), 1);
        NightRound none = new NightRound();
        CHECKS.refused("house(1) without a tape", none, none.house(1), 2);
    }

    private static void refusedByFault() {
        CHECKS.promise(3, "4 (the HOUSE stays).");
        NightRound x = Twins.busy();
        CHECKS.refused("house(52): its last line isn't whole", x, x.house(52), 4);
        CHECKS.due("size(12)", x.size(12), 0);
        NightRound twin = Twins.busy();
        twin.house(55);
        Told.tell(twin, Twins.TEXT);
        CHECKS.due("size(2)", x.size(2), 4);
        CHECKS.due("size(9)", x.size(9), 3);
        CHECKS.due("size(10)", x.size(10), 6);
        CHECKS.due("size(11)", x.size(11), 2);
        for (int what = 0; what <= 8; what++) {
            CHECKS.due("size(" + what + ")", x.size(what), twin.size(what));
        }
        CHECKS.due("thing(3, 4)", x.thing(3, 4), 1);
        CHECKS.given("undo()", x, x.undo());
        CHECKS.due("size(9)", x.size(9), 2);
        CHECKS.given("back(1)", x, x.back(1));
        CHECKS.due("rules()", x.rules(), twin.rules());
    }

    private static void faults() {
        CHECKS.promise(4, "The FAULT of the latest house() not refused by 2; 0 without one.");
        NightRound x = new NightRound();
        CHECKS.due("fault() ahead of all", x.fault(), 0);
        Told.tell(x, "ring");
        CHECKS.due("fault()", x.fault(), 6);
        x.house(1);
        CHECKS.due("fault() behind one refused by 2", x.fault(), 6);
        x.goes();
        CHECKS.due("fault() behind another call", x.fault(), 6);
        Told.tell(x, "house cellar 0");
        CHECKS.due("fault() of the latest", x.fault(), 4);
        Told.tell(x, HOUSE);
        CHECKS.due("fault() without one", x.fault(), 0);
        x.house(1);
        CHECKS.due("fault() without one, behind 2", x.fault(), 0);
    }

    private static void places() {
        CHECKS.promise(5, "Its place, if the latest call that may be refused was by 4; NONE else.");
        NightRound x = new NightRound();
        CHECKS.due("where() ahead of all", x.where(), -1);
        Told.tell(x, "ring");
        CHECKS.due("where()", x.where(), 0);
        x.feed(0, 0, 0, 0, 0);
        x.size(-1);
        x.trouble();
        x.fault();
        CHECKS.due("where() behind calls of which no number is told", x.where(), 0);
        x.undo();
        CHECKS.due("where() behind undo()", x.where(), -1);
        x.house(0);
        CHECKS.due("where() of an empty text", x.where(), 0);
        Told.tell(x, "house cellar 0");
        CHECKS.due("where()", x.where(), 13);
        x.house(900);
        CHECKS.due("where() behind house() refused by 2", x.where(), -1);
        Told.tell(x, HOUSE);
        CHECKS.due("where() behind a house that stands", x.where(), -1);
        Told.tell(x, "house cellar 0");
        CHECKS.due("where()", x.where(), 13);
        x.goes();
        CHECKS.due("where() behind a call that isn't refused", x.where(), -1);
    }
}
