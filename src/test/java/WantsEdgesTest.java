/** WANTS and BEST of Terms III, promises 27 to 30, sentence by sentence: the edges of pays, best, bestPays, kept. */
public final class WantsEdgesTest {
    private static final Checks CHECKS = new Checks("WantsEdgesTest");
    private static final String HOUSE = "house cellar 1 damp 0;ring r plain places 9;ring q plain places 9;";
    private static final int[] FAR_OFF = {-1, 61, 62, Integer.MIN_VALUE, Integer.MAX_VALUE};

    private WantsEdgesTest() {
    }

    public static void main(String[] args) {
        nightsThatCome();
        thingsThatAreThere();
        mostPaid();
        fewestHeld();
        leastBits();
        paysWithin60();
        bestWithin60();
        bestPaysWithin60();
        keptWithin60();
        refused();
        CHECKS.end();
    }

    private static void nights(NightRound x, int count) {
        for (int k = 0; k < count; k++) {
            x.night();
        }
    }

    private static void nightsThatCome() {
        CHECKS.term("WANTS within n NIGHTS from NOW: those whose night's number comes");
        NightRound x = Told.house(HOUSE + "thing a broken in r at 0 size 1;want a in r at 0 night 1 pays 1;want a in r at 0 night 2 pays 2;"
            + "want a in r at 0 night 3 pays 4;want a in r at 0 night 60 pays 8");
        int[] due = {0, 1, 3, 7, 7};
        for (int n = 0; n < due.length; n++) {
            CHECKS.given("pays(" + n + ")", x, x.pays(n), due[n]);
        }
        x.night();
        int[] later = {0, 2, 6, 6};
        for (int n = 0; n < later.length; n++) {
            CHECKS.given("pays(" + n + ") behind night 1", x, x.pays(n), later[n]);
        }
        CHECKS.given("pays(58) behind night 1", x, x.pays(58), 6);
        CHECKS.given("pays(59) behind night 1", x, x.pays(59), 14);
        nights(x, 58);
        CHECKS.given("pays(0) ahead of night 60", x, x.pays(0), 0);
        CHECKS.given("pays(1) ahead of night 60", x, x.pays(1), 8);
        x.night();
        CHECKS.given("pays(60) behind night 60", x, x.pays(60), 0);
        x.undo();
        CHECKS.given("pays(60) behind undo", x, x.pays(60), 8);
    }

    private static void thingsThatAreThere() {
        CHECKS.term("whose thing is there behind that night, pay");
        NightRound x = Told.house(HOUSE + "thing a plain in r at 0 size 1;thing b plain in r at 8 size 1;want a in r at 0 night 1 pays 1;"
            + "want a in r at 1 night 1 pays 2;want b in r at 1 night 1 pays 4;want b in r at 0 night 1 pays 8;want a in q at 1 night 1 pays 16;"
            + "want a in r at 1 night 1 pays 32");
        CHECKS.given("pays(1): behind the night, not ahead of it", x, x.pays(1), 42);
        CHECKS.given("kept()", x, x.kept(), 42);
        x.hold(0);
        CHECKS.given("pays(1) of a held one", x, x.pays(1), 1);
        x.let(0);
        x.put(0, 1, 0);
        CHECKS.given("pays(1) in another ring", x, x.pays(1), 24);
    }

    /* a pays most if b is held at 2, b if it isn't. */
    private static void mostPaid() {
        CHECKS.term("BEST: the things to be held more from NOW on by which all pay most within n NIGHTS");
        String text = HOUSE + "thing a plain in r at 0 size 1;thing b plain in r at 2 size 1;want a in r at 1 night 3 pays ";
        NightRound held = Told.house(text + "5;want b in r at 5 night 3 pays 4");
        CHECKS.given("best(3)", held, held.best(3), 2);
        CHECKS.given("bestPays(3)", held, held.bestPays(3), 5);
        NightRound free = Told.house(text + "4;want b in r at 5 night 3 pays 5");
        CHECKS.given("best(3)", free, free.best(3), 0);
        CHECKS.given("bestPays(3)", free, free.bestPays(3), 5);
        CHECKS.given("best(2): within the nights alone", free, free.best(2), 0);
        free.hold(1);
        CHECKS.given("best(3): what is held stays so, none more", free, free.best(3), 0);
        CHECKS.given("bestPays(3)", free, free.bestPays(3), 4);
        CHECKS.due("size(10): only thought of", free.size(10), 1);
    }

    private static void fewestHeld() {
        CHECKS.term("of like ones fewest, of these the least bits");
        NightRound alike = Told.house(HOUSE + "thing a plain in r at 0 size 1;thing b plain in r at 2 size 1;want a in r at 1 night 3 pays 4;want b in r at 5 night 3 pays 4");
        CHECKS.given("best(3): none ahead of one", alike, alike.best(3), 0);
        NightRound one = Told.house(HOUSE + "thing a plain in r at 5 size 1;thing b plain in r at 8 size 1;thing c plain in r at 2 size 1;"
            + "thing t plain in r at 0 size 1;thing u plain in r at 6 size 1;"
            + "want t in r at 3 night 5 pays 5;want u in r at 7 night 5 pays 5;want t in r at 1 night 5 pays 5;want u in r at 8 night 5 pays 5");
        CHECKS.given("best(5): one ahead of two with less bits", one, one.best(5), 4);
        CHECKS.given("bestPays(5)", one, one.bestPays(5), 10);
        NightRound none = Told.house(HOUSE + "thing a plain in r at 0 size 1");
        CHECKS.given("best(60) without wants", none, none.best(60), 0);
        CHECKS.given("bestPays(60) without wants", none, none.bestPays(60), 0);
        NightRound empty = Told.house("house cellar 1 damp 0;ring r plain places 2");
        CHECKS.given("best(60) without things", empty, empty.best(60), 0);
    }

    private static void leastBits() {
        CHECKS.term("of these the least bits");
        NightRound x = Told.house(HOUSE + "thing a plain in r at 3 size 1;thing b plain in r at 2 size 1;thing c plain in r at 1 size 1;"
            + "thing d plain in q at 1 size 1;thing e plain in q at 2 size 1;want c in r at 1 night 4 pays 2;want d in q at 1 night 4 pays 2");
        CHECKS.given("best(4): a of three, d of two", x, x.best(4), 9);
        CHECKS.given("bestPays(4)", x, x.bestPays(4), 4);
        NightRound last = Told.house(Told.FULLEST.replace("want z in s at 1 night 5", "want z in c at 0 night 5").replace("size 6", "size 5"));
        CHECKS.given("best(5): the last thing too", last, last.best(5) & 64, 64);
    }

    private static void paysWithin60() {
        CHECKS.promise(27, "What WANTS pay within n NIGHTS (0 .. 60).");
        NightRound x = most();
        CHECKS.given("pays(0)", x, x.pays(0), 0);
        CHECKS.given("pays(59)", x, x.pays(59), 0);
        CHECKS.given("pays(60): six times 99", x, x.pays(60), 594);
    }

    /** All wants pay most on the last night. */
    private static NightRound most() {
        String want = ";want a in r at 6 night 60 pays 99";
        return Told.house(HOUSE + "thing a plain in r at 0 size 1" + want.repeat(6));
    }

    private static void bestWithin60() {
        CHECKS.promise(28, "BEST, as bits.");
        NightRound x = most();
        x.put(0, 0, 6);
        CHECKS.given("best(0)", x, x.best(0), 0);
        CHECKS.given("best(59)", x, x.best(59), 0);
        CHECKS.given("best(60)", x, x.best(60), 1);
    }

    private static void bestPaysWithin60() {
        CHECKS.promise(29, "What they pay by it.");
        NightRound x = most();
        x.put(0, 0, 6);
        CHECKS.given("bestPays(0)", x, x.bestPays(0), 0);
        CHECKS.given("bestPays(59)", x, x.bestPays(59), 0);
        CHECKS.given("bestPays(60)", x, x.bestPays(60), 594);
        CHECKS.given("pays(60) as it is", x, x.pays(60), 0);
    }

    private static void keptWithin60() {
        CHECKS.promise(30, "Wants that pay within 60 NIGHTS, as bits.");
        NightRound x = most();
        CHECKS.given("kept(): all six on the last night", x, x.kept(), 63);
        nights(x, 59);
        CHECKS.given("kept() ahead of the last night", x, x.kept(), 63);
        x.night();
        CHECKS.given("kept() behind the last night", x, x.kept(), 0);
        NightRound none = Told.house(HOUSE + "thing a plain in r at 0 size 1");
        CHECKS.given("kept() without wants", none, none.kept(), 0);
    }

    private static void refused() {
        NightRound x = most();
        NightRound none = new NightRound();
        CHECKS.promise(27, "NONE: 1 (no HOUSE); 2.");
        CHECKS.refused("pays(0) without a house", none, none.pays(0), 1);
        for (int far : FAR_OFF) {
            CHECKS.refused("pays(" + far + ")", x, x.pays(far), 2);
            CHECKS.refused("pays(" + far + ") without a house", none, none.pays(far), 1);
        }
        CHECKS.promise(28, "NONE: 1 (no HOUSE); 2.");
        CHECKS.refused("best(0) without a house", none, none.best(0), 1);
        for (int far : FAR_OFF) {
            CHECKS.refused("best(" + far + ")", x, x.best(far), 2);
            CHECKS.refused("best(" + far + ") without a house", none, none.best(far), 1);
        }
        CHECKS.promise(29, "NONE: 1 (no HOUSE); 2.");
        CHECKS.refused("bestPays(0) without a house", none, none.bestPays(0), 1);
        for (int far : FAR_OFF) {
            CHECKS.refused("bestPays(" + far + ")", x, x.bestPays(far), 2);
            CHECKS.refused("bestPays(" + far + ") without a house", none, none.bestPays(far), 1);
        }
        CHECKS.promise(30, "NONE: 1 (no HOUSE).");
        CHECKS.refused("kept() without a house", none, none.kept(), 1);
    }
}
