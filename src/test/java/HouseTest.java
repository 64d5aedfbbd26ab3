/** Promises 1 to 5: a new object, feed, house, fault, where. */
public final class HouseTest {
    private static final Checks CHECKS = new Checks("HouseTest");
    private static final String START = "house cellar 1 damp 0;ring r plain places 3;ring q attic places 9;";
    private static final String RING = "house cellar 1 damp 0;ring r plain places 3";

    private HouseTest() {
    }

    public static void main(String[] args) {
        newObject();
        feeds();
        texts();
        formFaults();
        tokenFaults();
        nameFaults();
        twiceFaults();
        boundsFaults();
        manyFaults();
        lacksFaults();
        whatStays();
        anotherHouse();
        whereIsGone();
        CHECKS.end();
    }

    private static void fails(String text, int fault, int place) {
        NightRound x = new NightRound();
        CHECKS.refused("house of " + text, x, Told.tell(x, text), 4);
        CHECKS.due("fault() of " + text, x.fault(), fault);
        CHECKS.due("where() of " + text, x.where(), place);
        CHECKS.due("size(12) of " + text, x.size(12), 0);
        CHECKS.due("size(2) of " + text, x.size(2), 0);
    }

    private static void stands(String text, int rings) {
        NightRound x = new NightRound();
        CHECKS.given("house of " + text, x, Told.tell(x, text), rings);
        CHECKS.due("fault() of " + text, x.fault(), 0);
        CHECKS.due("where() of " + text, x.where(), -1);
    }

    private static void newObject() {
        NightRound x = new NightRound();
        CHECKS.due("trouble()", x.trouble(), 0);
        CHECKS.due("fault()", x.fault(), 0);
        CHECKS.due("where()", x.where(), -1);
        for (int what = 0; what <= 12; what++) {
            CHECKS.due("size(" + what + ")", x.size(what), 0);
        }
        CHECKS.refused("goes()", x, x.goes(), 1);
        CHECKS.refused("rules()", x, x.rules(), 1);
        CHECKS.refused("undo()", x, x.undo(), 6);
    }

    private static void feeds() {
        NightRound x = new NightRound();
        for (int i = 1; i <= 45; i++) {
            CHECKS.due("feed " + i, x.feed(0x20202020, 0x20202020, 0x20202020, 0x20202020, 0x20202020), 20 * i);
        }
        CHECKS.due("feed 46", x.feed(1, 2, 3, 4, 5), -1);
        CHECKS.due("size(12)", x.size(12), 900);
        CHECKS.refused("house(901)", x, x.house(901), 2);
        CHECKS.due("size(12)", x.size(12), 900);
        CHECKS.refused("house(900)", x, x.house(900), 4);
        CHECKS.due("fault()", x.fault(), 1);
        CHECKS.due("where()", x.where(), 900);
        CHECKS.due("size(12)", x.size(12), 0);
        CHECKS.refused("house(1)", x, x.house(1), 2);
        CHECKS.due("feed", x.feed(0, 0, 0, 0, 0), 20);
        CHECKS.due("trouble() behind feed", x.trouble(), 2);
        byteOrder();
    }

    private static void byteOrder() {
        NightRound x = new NightRound();
        x.feed('h' << 24 | 'o' << 16 | 'u' << 8 | 's', 'e' << 24 | ' ' << 16 | '9' << 8 | 200, -1, -1, -1);
        CHECKS.refused("house(20)", x, x.house(20), 4);
        CHECKS.due("where()", x.where(), 6);
        x.feed(-1, 0, 0, 0, 0);
        CHECKS.refused("house(20)", x, x.house(20), 4);
        CHECKS.due("where() of a high byte", x.where(), 0);
    }

    private static void texts() {
        stands(RING, 1);
        stands("  house   cellar 005 damp 100 ; ring r plain places 9  ", 1);
        stands("house cellar1damp0;ring r attic places2;ring plain plain places 002", 2);
        stands("house cellar 1 damp 0;ring abcdefgh cellar places 2", 1);
        stands(START + "ring in plain places 2;thing at pet in in at 1 size 9;want at in in at 0 night 60 pays 99", 3);
        stands(START + "narrow r 2 by 0;narrow q 8 by 9;door r 0 q 0;door r 0 r 1;door r 1 q 0;door r 0 q 1", 2);
        stands(START + "thing a pet in r at 0 size 1;thing b plain in q at 0 size 9;want b in r at 2 night 1 pays 1", 2);
        stands(START + "found 0 at 11;lost 99 at 0", 2);
    }

    private static void formFaults() {
        fails("", 1, 0);
        fails("   ", 1, 3);
        fails("house", 1, 5);
        fails("house ", 1, 6);
        fails("house cellar", 1, 12);
        fails("house damp 1", 1, 6);
        fails("house cellar 1 damp 0;", 1, 22);
        fails("house cellar 1 damp 0 ring", 1, 22);
        fails("house cellar 1 damp 0;;", 1, 22);
        fails(";", 1, 0);
        fails("7", 1, 0);
        fails("houses", 1, 0);
        fails("hous cellar", 1, 0);
        fails("house cellar x", 1, 13);
        fails("house cellar ;", 1, 13);
        fails("house cellar 1 1", 1, 15);
        fails(START, 1, START.length());
        fails(START + "ring", 1, 70);
        fails(START + "ring 5", 1, 71);
        fails(START + "ring house", 1, 71);
        fails(START + "ring x piano", 1, 73);
        fails(START + "ring x plain place 2", 1, 79);
        fails(START + "narrow ring", 1, 73);
        fails(START + "narrow r x", 1, 75);
        fails(START + "narrow r 0 at", 1, 77);
        fails(START + "narrow r 0 by by", 1, 80);
        fails(START + "door r 0 0", 1, 75);
        fails(START + "door r q", 1, 73);
        fails(START + "door want", 1, 71);
        fails(START + "thing narrow", 1, 72);
        fails(START + "thing x attic", 1, 74);
        fails(START + "thing x pet at", 1, 78);
        fails(START + "thing x pet in door", 1, 81);
        fails(START + "thing x pet in r in", 1, 83);
        fails(START + "thing x pet in r at 0 pays", 1, 88);
        fails(START + "want lost", 1, 71);
        fails(START + "found x", 1, 72);
        fails(START + "found 1 in", 1, 74);
        fails(START + "lost 1 at x", 1, 76);
        fails(START + "lost 1 at 1 1", 1, 78);
    }

    private static void tokenFaults() {
        fails("House", 1, 0);
        fails("house, cellar", 1, 5);
        fails("house\tcellar", 1, 5);
        fails("house cellar 0001", 1, 13);
        fails("house cellar 1000", 1, 13);
        fails("house cellar -1", 1, 13);
        fails("house cellar 1 damp 0;ring abcdefghi plain", 1, 27);
        fails("house cellar 1 damp 0;ring r plain places 2;ring rplain", 1, 55);
        fails("house cellar 1 damp 0;ring r" + (char) 233, 1, 28);
        fails("house cellar 1 damp 0;ring r" + (char) 0, 1, 28);
        fails(RING + (char) 0, 1, 43);
        fails(RING + " " + (char) 0 + ";", 1, 44);
        fails("xouse cellar 1", 1, 0);
        fails("house xellar 1", 1, 6);
        fails("house cellax 1", 1, 6);
        fails("house cellar 1 damp 0;ring r`", 1, 28);
        fails("house cellar 1 damp 0;ring r{", 1, 28);
        fails("house cellar 1/", 1, 14);
        fails("house cellar 1:", 1, 14);
    }

    private static void nameFaults() {
        fails(START + "narrow x", 2, 73);
        fails(START + "narrow rr", 2, 73);
        fails("house cellar 1 damp 0;ring ab plain places 2;ring ba plain places 2;narrow aa", 2, 75);
        fails(START + "door x", 2, 71);
        fails(START + "door r 0 x", 2, 75);
        fails(START + "thing x pet in x", 2, 81);
        fails(START + "thing x pet in y", 2, 81);
        fails(START + "want r", 2, 71);
        fails(START + "want x", 2, 71);
        fails(START + "thing t pet in r at 0 size 1;want t in t", 2, 105);
        fails(START + "thing t pet in r at 0 size 1;narrow t", 2, 102);
        fails(START + "thing t pet in r at 0 size 1;door t", 2, 100);
    }

    private static void twiceFaults() {
        fails("house cellar 1 damp 0;house", 3, 22);
        fails(START + "house", 3, 66);
        fails(START + "ring r", 3, 71);
        fails(START + "ring q", 3, 71);
        fails(START + "thing r", 3, 72);
        fails(START + "thing t pet in r at 0 size 1;thing t", 3, 101);
        fails(START + "thing t pet in r at 0 size 1;ring t", 3, 100);
        fails(START + "narrow r 0 by 9;narrow r 0 by 9", 3, 91);
        fails(START + "door r 1 r 1", 3, 77);
        fails(START + "door r 1 q 1;door r 1 q 1", 3, 90);
        fails(START + "door r 1 q 1;door q 1 r 1", 3, 90);
        fails(START + "thing t pet in r at 0 size 1;thing u pet in r at 0", 3, 115);
        fails(START + "found 5 at 1;found 5", 3, 85);
        fails(START + "lost 5 at 1;found 05", 3, 84);
        fails(START + "found 5 at 1;lost 5", 3, 84);
    }

    private static void boundsFaults() {
        fails("house cellar 0", 4, 13);
        fails("house cellar 6", 4, 13);
        fails("house cellar 5 damp 101", 4, 20);
        fails("house cellar 1 damp 0;ring r plain places 1", 4, 42);
        fails("house cellar 1 damp 0;ring r plain places 10", 4, 42);
        fails(START + "narrow r 3", 4, 75);
        fails(START + "narrow r 2 by 10", 4, 80);
        fails(START + "door r 3", 4, 73);
        fails(START + "door r 2 q 9", 4, 77);
        fails(START + "thing t pet in r at 3", 4, 86);
        fails(START + "thing t pet in r at 2 size 0", 4, 93);
        fails(START + "thing t pet in r at 2 size 10", 4, 93);
        fails(START + "thing t pet in r at 2 size 9;want t in r at 3", 4, 110);
        fails(START + "thing t pet in r at 2 size 9;want t in r at 2 night 0", 4, 118);
        fails(START + "thing t pet in r at 2 size 9;want t in r at 2 night 61", 4, 118);
        fails(START + "thing t pet in r at 2 size 9;want t in r at 2 night 60 pays 0", 4, 126);
        fails(START + "thing t pet in r at 2 size 9;want t in r at 2 night 60 pays 100", 4, 126);
        fails(START + "found 100", 4, 72);
        fails(START + "found 99 at 12", 4, 78);
        fails(START + "lost 100", 4, 71);
        fails(START + "lost 99 at 12", 4, 77);
    }

    private static void manyFaults() {
        String rings = "ring a plain places 2;ring b plain places 2;";
        fails(START + rings + "ring", 5, START.length() + rings.length());
        stands(START + rings + "narrow b 1 by 1", 4);
        StringBuilder text = new StringBuilder(START);
        for (int i = 0; i < 6; i++) {
            text.append("narrow q ").append(i).append(" by 1;");
        }
        fails(text + "narrow", 5, text.length());
        text.setLength(START.length());
        for (int i = 0; i < 5; i++) {
            text.append("door q ").append(i).append(" r 0;");
        }
        fails(text + "door", 5, text.length());
        text.setLength(START.length());
        for (int i = 0; i < 7; i++) {
            text.append("thing t").append((char) ('a' + i)).append(" pet in q at ").append(i).append(" size 1;");
        }
        fails(text + "thing", 5, text.length());
        for (int i = 0; i < 6; i++) {
            text.append("want ta in q at 1 night 1 pays 1;");
        }
        fails(text + "want", 5, text.length());
        text.setLength(START.length());
        for (int i = 0; i < 6; i++) {
            text.append(i % 2 == 0 ? "found " : "lost ").append(i).append(" at 1;");
        }
        fails(text + "found", 5, text.length());
        fails(text + "lost 50 at 1", 5, text.length());
    }

    private static void lacksFaults() {
        fails("ring r", 6, 0);
        fails(" ring r", 6, 1);
        fails("narrow", 6, 0);
        fails("door", 6, 0);
        fails("thing", 6, 0);
        fails("want", 6, 0);
        fails("found 1 at 1", 6, 0);
        fails("lost 1 at 1", 6, 0);
        fails("house cellar 1 damp 0", 6, 21);
        fails("house cellar 1 damp 0  ", 6, 23);
        fails("house cellar 1 damp 0;found 1 at 1", 6, 34);
    }

    private static void whatStays() {
        NightRound x = Told.house(START + "thing t plain in r at 0 size 1");
        x.hold(0);
        x.night();
        x.image();
        CHECKS.refused("house(1) without a tape", x, x.house(1), 2);
        CHECKS.due("fault() behind 2", x.fault(), 0);
        CHECKS.refused("a fault", x, Told.tell(x, "house cellar 1 damp 0;"), 4);
        CHECKS.due("size(2)", x.size(2), 2);
        CHECKS.due("size(4)", x.size(4), 1);
        CHECKS.due("size(9)", x.size(9), 1);
        CHECKS.due("size(10)", x.size(10), 2);
        CHECKS.due("size(11)", x.size(11), 1);
        CHECKS.due("led(0)", x.led(0), 0);
        Told.feed(x, RING + ";thing u pet in r at 2 size 4;lost");
        CHECKS.refused("house(-1)", x, x.house(-1), 2);
        CHECKS.due("fault() of the one before", x.fault(), 1);
        CHECKS.due("where() behind 2", x.where(), -1);
        CHECKS.due("size(12)", x.size(12), 80);
        CHECKS.given("house(72)", x, x.house(72), 1);
        CHECKS.due("size(12)", x.size(12), 0);
        CHECKS.due("fault()", x.fault(), 0);
        CHECKS.due("size(9)", x.size(9), 0);
        CHECKS.due("size(10)", x.size(10), 0);
        CHECKS.due("size(11)", x.size(11), 0);
        CHECKS.due("thing(0, 2)", x.thing(0, 2), 2);
        CHECKS.due("thing(0, 4)", x.thing(0, 4), 0);
        CHECKS.refused("undo()", x, x.undo(), 6);
    }

    private static void anotherHouse() {
        NightRound x = Told.house("house cellar 5 damp 9;ring r plain places 3;ring q attic places 4;narrow r 1 by 0;narrow q 0 by 9;"
            + "door r 0 q 0;thing t plain in r at 0 size 1;thing u plain in q at 0 size 2;want t in r at 1 night 1 pays 1;lost 1 at 1");
        Told.tell(x, "house cellar 5 damp 9;ring r plain places 3;lost 2 at 2;lost 1 at 2;thing v plain in r at 1 size 5");
        CHECKS.refused("a fault", x, Told.tell(x, "house cellar 2 damp 3;ring a plain places 2;thing b pet in a at 0 size 1;want"), 4);
        CHECKS.given("a small house behind larger ones", x, Told.tell(x, "house cellar 2 damp 3;ring a plain places 3;thing b pet in a at 0 size 1"), 1);
        int[] sizes = {2, 3, 1, 3, 1, 0, 0, 0, 0, 0, 0, 0, 0};
        for (int what = 0; what < sizes.length; what++) {
            CHECKS.due("size(" + what + ")", x.size(what), sizes[what]);
        }
        CHECKS.given("narrow(0, 1)", x, x.narrow(0, 1), -2);
        CHECKS.given("rules()", x, x.rules(), 572);
        CHECKS.given("kept()", x, x.kept(), 0);
        CHECKS.given("at(0, 1)", x, x.at(0, 1), -2);
        CHECKS.given("ahead(0)", x, x.ahead(0), 1);
        CHECKS.refused("ring(1, 0)", x, x.ring(1, 0), 1);
        CHECKS.refused("thing(1, 0)", x, x.thing(1, 0), 1);
        Told.tell(x, "house cellar 1 damp 0;ring r plain places 2;ring q plain places 2;thing t plain in r at 0 size 1;thing u plain in q at 0 size 1");
        CHECKS.given("meeting() without the doors of before", x, x.meeting(), -2);
    }

    private static void whereIsGone() {
        NightRound x = new NightRound();
        Told.tell(x, "house x");
        CHECKS.due("where()", x.where(), 6);
        x.feed(0, 0, 0, 0, 0);
        x.size(3);
        x.fault();
        x.trouble();
        CHECKS.due("where() behind calls that are never refused", x.where(), 6);
        CHECKS.refused("goes()", x, x.goes(), 1);
        CHECKS.due("where() behind another call", x.where(), -1);
        CHECKS.due("fault() stays", x.fault(), 1);
    }
}
