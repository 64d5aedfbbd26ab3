/** Terms I, sentence by sentence: the edges of the text of a house, and its faults. */
public final class TextEdgesTest {
    private static final Checks CHECKS = new Checks("TextEdgesTest");
    private static final String HOUSE = "house cellar 1 damp 0;";
    private static final String RING = "ring r plain places 3";
    private static final String RINGS = HOUSE + RING + ";ring q attic places 9;";
    private static final String THING = RINGS + "thing t pet in r at 0 size 1;";
    private static final String[] FIRST_WORDS = {"house", "ring", "narrow", "door", "thing", "want", "found", "lost"};
    private static final int FORM = 1;
    private static final int UNTOLD = 2;
    private static final int TWICE = 3;
    private static final int BOUNDS = 4;
    private static final int MANY = 5;
    private static final int LACKS = 6;

    private TextEdgesTest() {
    }

    public static void main(String[] args) {
        tape();
        blanks();
        words();
        wholes();
        semicolons();
        lines();
        houseLine();
        ringLine();
        narrowLine();
        doorLine();
        thingLine();
        wantLine();
        markLines();
        names();
        toldAheadOfUse();
        firstFromTheLeft();
        leastOfOnePlace();
        form();
        untold();
        namesTwice();
        placesTwice();
        nightsAndHouseTwice();
        bounds();
        many();
        lacks();
        CHECKS.end();
    }

    /** A text whose fault is at the first byte of its second part. */
    private static void fails(String good, String bad, int fault) {
        NightRound x = new NightRound();
        String text = good + bad;
        CHECKS.refused("house of " + text, x, Told.tell(x, text), 4);
        CHECKS.due("fault() of " + text, x.fault(), fault);
        CHECKS.due("where() of " + text, x.where(), good.length());
    }

    private static NightRound stands(String text, int rings) {
        NightRound x = new NightRound();
        CHECKS.given("house of " + text, x, Told.tell(x, text), rings);
        CHECKS.due("fault() of " + text, x.fault(), 0);
        CHECKS.due("where() of " + text, x.where(), -1);
        return x;
    }

    private static void tape() {
        CHECKS.term("THE TAPE has 900 bytes");
        String text = HOUSE + RING;
        String blanks = " ".repeat(900 - text.length());
        stands(blanks + text, 1);
        stands(text + blanks, 1);
        fails(" ".repeat(899), "?", FORM);
        fails(blanks + HOUSE + "ring r plain places ", "1", BOUNDS);
        fails(" ".repeat(900), "", FORM);
    }

    private static void blanks() {
        CHECKS.term("blanks, 32, part TOKENS and mean nothing else");
        stands("   house   cellar   1   damp   0   ;   ring   r   plain   places   3   ", 1);
        stands("house cellar1damp0;ring r plain places3", 1);
        fails("", "ho use cellar 1", FORM);
        fails("house cellar 1 damp 1 ", "0;" + RING, FORM);
        fails(HOUSE + "ring rplain ", "places 3", FORM);
        fails(HOUSE + "ring r ", "plainplaces 3", FORM);
        for (int b : new int[] {0, 9, 10, 13, 31, 33, 64, 95, 127, 128, 160, 255}) {
            fails("house", (char) b + "cellar 1", FORM);
            fails(HOUSE + RING, (char) b + ";ring q plain places 2", FORM);
            fails(HOUSE + RING, "" + (char) b, FORM);
            fails(HOUSE, (char) b + RING, FORM);
        }
    }

    private static void words() {
        CHECKS.term("WORDS of 1 to 8 small letters that stand together");
        stands(HOUSE + "ring a plain places 2;ring z plain places 2;ring abcdefgh plain places 2;ring abcdefgz plain places 2", 4);
        NightRound x = stands(HOUSE + "ring zzzzzzzz plain places 2;ring azzzzzzz attic places 3;thing a pet in azzzzzzz at 2 size 1", 2);
        CHECKS.due("the ring of a name of 8 letters", x.thing(0, 1), 1);
        fails(HOUSE + "ring ", "abcdefghi plain places 2", FORM);
        fails(HOUSE + "ring ", "a".repeat(40) + " plain places 2", FORM);
        fails(HOUSE, "abcdefghi", FORM);
        fails("", "householdx", FORM);
        fails("", "House", FORM);
        for (char c : new char[] {'A', 'Z', '@', '[', '`', '{'}) {
            fails(HOUSE + "ring ", c + " plain places 2", FORM);
            fails(HOUSE + "ring a", c + " plain places 2", FORM);
        }
    }

    private static void wholes() {
        CHECKS.term("WHOLES of 1 to 3 digits that do");
        NightRound x = stands("house cellar 1 damp 100;ring r plain places 009;ring q plain places 08", 2);
        CHECKS.due("damp of 3 digits", x.size(1), 100);
        CHECKS.due("places of 3 digits", x.ring(0, 1), 9);
        CHECKS.due("places of 2 digits", x.ring(1, 1), 8);
        fails("house cellar ", "0001 damp 0;" + RING, FORM);
        fails("house cellar 1 damp ", "0000;" + RING, FORM);
        fails("house cellar ", "1".repeat(12) + " damp 0;" + RING, FORM);
        fails("house cellar ", "4294967297 damp 0;" + RING, FORM);
        for (char c : new char[] {'/', ':', '-', '.', '+'}) {
            fails("house cellar ", c + " damp 0", FORM);
            fails("house cellar 1", c + " damp 0", FORM);
        }
    }

    private static void semicolons() {
        CHECKS.term("single ones of ;");
        stands("house cellar 1 damp 0 ; " + RING, 1);
        fails(HOUSE, ";" + RING, FORM);
        fails(HOUSE + " ", ";" + RING, FORM);
        fails("", HOUSE.replace("house", ";house"), FORM);
        fails(HOUSE + RING, ",ring q plain places 2", FORM);
        fails(HOUSE + RING, ":ring q plain places 2", FORM);
    }

    private static void lines() {
        CHECKS.term("LINE {; LINE}");
        fails("", "", FORM);
        fails(HOUSE + RING + ";", "", FORM);
        fails(HOUSE + RING + "; ", "", FORM);
        fails(HOUSE + RING + " ", "ring q plain places 2", FORM);
        stands(HOUSE + RING, 1);
        stands(HOUSE + "lost 1 at 1;" + RING + ";lost 2 at 1;ring q plain places 2", 2);
    }

    private static void houseLine() {
        CHECKS.term("(1 .. 5 nights; 0 .. 100 in a hundred), ahead of all others");
        for (int cellar = 1; cellar <= 5; cellar++) {
            CHECKS.due("size(0)", stands("house cellar " + cellar + " damp 0;" + RING, 1).size(0), cellar);
        }
        for (int damp : new int[] {0, 1, 99, 100}) {
            CHECKS.due("size(1)", stands("house cellar 1 damp " + damp + ";" + RING, 1).size(1), damp);
        }
        for (int cellar : new int[] {0, 6, 10, 100, 999}) {
            fails("house cellar ", cellar + " damp 0;" + RING, BOUNDS);
        }
        for (int damp : new int[] {101, 102, 200, 999}) {
            fails("house cellar 5 damp ", damp + ";" + RING, BOUNDS);
        }
        fails("", RING + ";house cellar 1 damp 0", LACKS);
    }

    private static void ringLine() {
        CHECKS.term("(SORT: plain, cellar, or attic; 2 .. 9; up to 4)");
        String[] sorts = {"plain", "cellar", "attic"};
        for (int sort = 0; sort < 3; sort++) {
            CHECKS.due("ring(0, 0)", stands(HOUSE + "ring r " + sorts[sort] + " places 2", 1).ring(0, 0), sort);
        }
        for (String sort : new String[] {"piano", "pet", "broken", "plai", "plains", "attics", "places", "r"}) {
            fails(HOUSE + "ring r ", sort + " places 2", FORM);
        }
        for (int places = 2; places <= 9; places++) {
            CHECKS.due("ring(0, 1)", stands(HOUSE + "ring r plain places " + places, 1).ring(0, 1), places);
        }
        for (int places : new int[] {0, 1, 10, 11, 100, 999}) {
            fails(HOUSE + "ring r plain places ", "" + places, BOUNDS);
        }
        String four = RINGS + "ring a plain places 2;ring b cellar places 9";
        stands(four, 4);
        fails(four + ";", "ring c plain places 2", MANY);
    }

    private static void narrowLine() {
        CHECKS.term("(a place, from 0 on, once for each; 0 .. 9; up to 6)");
        NightRound x = stands(RINGS + "narrow r 0 by 0;narrow r 2 by 9;narrow q 0 by 1;narrow q 8 by 8", 2);
        CHECKS.due("narrow(0, 0)", x.narrow(0, 0), 0);
        CHECKS.due("narrow(0, 2)", x.narrow(0, 2), 9);
        CHECKS.due("narrow(1, 0)", x.narrow(1, 0), 1);
        CHECKS.due("narrow(1, 8)", x.narrow(1, 8), 8);
        fails(RINGS + "narrow r ", "3 by 1", BOUNDS);
        fails(RINGS + "narrow q ", "9 by 1", BOUNDS);
        fails(RINGS + "narrow q ", "999 by 1", BOUNDS);
        fails(RINGS + "narrow r 0 by ", "10", BOUNDS);
        fails(RINGS + "narrow r 0 by ", "999", BOUNDS);
        fails(RINGS + "narrow r 0 by 0;narrow r ", "0 by 1", TWICE);
        fails(RINGS + "narrow r 0 by 9;narrow r ", "0 by 9", TWICE);
        String six = rows(RINGS, "narrow q ", 6, " by 1");
        CHECKS.due("size(5)", stands(six, 2).size(5), 6);
        fails(six + ";", "narrow q 7 by 1", MANY);
    }

    /** So many lines alike but for a number. */
    private static String rows(String start, String before, int count, String behind) {
        StringBuilder text = new StringBuilder(start);
        for (int i = 0; i < count; i++) {
            text.append(i == 0 ? "" : ";").append(before).append(i).append(behind);
        }
        return text.toString();
    }

    private static void doorLine() {
        CHECKS.term("(two places, unlike, once in whatever order; up to 5)");
        stands(RINGS + "door r 0 r 1;door r 0 q 0;door r 2 q 8", 2);
        fails(RINGS + "door r ", "3 q 0", BOUNDS);
        fails(RINGS + "door q ", "9 r 0", BOUNDS);
        fails(RINGS + "door r 0 q ", "9", BOUNDS);
        fails(RINGS + "door q 0 r ", "3", BOUNDS);
        fails(RINGS + "door r 0 r ", "0", TWICE);
        fails(RINGS + "door r 0 q 8;door r 0 q ", "8", TWICE);
        fails(RINGS + "door r 0 q 8;door q 8 r ", "0", TWICE);
        fails(RINGS + "door r 0 r 1;door r 1 r ", "0", TWICE);
        String five = rows(RINGS, "door r 0 q ", 5, "");
        CHECKS.due("size(6)", stands(five, 2).size(6), 5);
        fails(five + ";", "door r 1 q 7", MANY);
    }

    private static void thingLine() {
        CHECKS.term("(KIND: plain, piano, broken, or pet; a place without a thing; 1 .. 9; up to 7)");
        String[] kinds = {"plain", "piano", "broken", "pet"};
        for (int kind = 0; kind < 4; kind++) {
            CHECKS.due("thing(0, 0)", stands(RINGS + "thing t " + kinds[kind] + " in r at 2 size 1", 2).thing(0, 0), kind);
        }
        for (String kind : new String[] {"attic", "cellar", "pets", "pe", "in", "t"}) {
            fails(RINGS + "thing t ", kind + " in r at 0 size 1", FORM);
        }
        for (int size = 1; size <= 9; size++) {
            CHECKS.due("thing(0, 3)", stands(RINGS + "thing t pet in r at 0 size " + size, 2).thing(0, 3), size);
        }
        for (int size : new int[] {0, 10, 11, 99, 999}) {
            fails(RINGS + "thing t pet in r at 0 size ", "" + size, BOUNDS);
        }
        CHECKS.due("thing(0, 2)", stands(RINGS + "thing t pet in q at 8 size 1", 2).thing(0, 2), 8);
        fails(RINGS + "thing t pet in r at ", "3 size 1", BOUNDS);
        fails(RINGS + "thing t pet in q at ", "9 size 1", BOUNDS);
        fails(THING + "thing u pet in r at ", "0 size 1", TWICE);
        stands(THING + "thing u pet in q at 0 size 1;thing v pet in r at 1 size 1", 2);
        String seven = rows(RINGS, "thing t", 7, " pet in q at # size 1");
        stands(numbered(seven), 2);
        CHECKS.due("size(4)", stands(numbered(seven), 2).size(4), 7);
        fails(numbered(seven) + ";", "thing z pet in r at 0 size 1", MANY);
    }

    /* Names have no digits: t3 becomes td, and # the thing's number. */
    private static String numbered(String text) {
        String named = text;
        for (int i = 0; i < 7; i++) {
            named = named.replaceFirst("thing t" + i, "thing t" + (char) ('a' + i)).replaceFirst("#", "" + i);
        }
        return named;
    }

    private static void wantLine() {
        CHECKS.term("(1 .. 60; 1 .. 99; up to 6)");
        stands(THING + "want t in r at 0 night 1 pays 1;want t in r at 2 night 60 pays 99;want t in q at 8 night 59 pays 98", 2);
        for (int night : new int[] {0, 61, 62, 100, 999}) {
            fails(THING + "want t in r at 0 night ", night + " pays 1", BOUNDS);
        }
        for (int pays : new int[] {0, 100, 101, 999}) {
            fails(THING + "want t in r at 0 night 1 pays ", "" + pays, BOUNDS);
        }
        fails(THING + "want t in r at ", "3 night 1 pays 1", BOUNDS);
        fails(THING + "want t in q at ", "9 night 1 pays 1", BOUNDS);
        String six = rows(THING, "want t in q at ", 6, " night 1 pays 1");
        CHECKS.due("size(7)", stands(six, 2).size(7), 6);
        fails(six + ";", "want t in q at 7 night 1 pays 1", MANY);
        String alike = THING + "want t in r at 0 night 1 pays 1;want t in r at 0 night 1 pays 1";
        CHECKS.due("size(7) of two alike", stands(alike, 2).size(7), 2);
    }

    private static void markLines() {
        CHECKS.term("(a night, 0 .. 99, each once of both; a place of the box, 0 .. 11; up to 6 of both)");
        for (String word : new String[] {"found ", "lost "}) {
            stands(RINGS + word + "0 at 0;" + word + "99 at 11;" + word + "1 at 10", 2);
            fails(RINGS + word, "100 at 0", BOUNDS);
            fails(RINGS + word, "999 at 0", BOUNDS);
            fails(RINGS + word + "0 at ", "12", BOUNDS);
            fails(RINGS + word + "0 at ", "999", BOUNDS);
            for (String again : new String[] {"found ", "lost "}) {
                fails(RINGS + word + "7 at 1;" + again, "7 at 2", TWICE);
                String six = rows(RINGS + again + "99 at 1;", word, 5, " at 1");
                CHECKS.due("size(8)", stands(six, 2).size(8), 6);
                fails(six + ";", word + "50 at 1", MANY);
                fails(six + ";", again + "50 at 1", MANY);
            }
        }
    }

    private static void names() {
        CHECKS.term("NAMES are WORDS but house, ring, narrow, door, thing, want, found, lost");
        for (String word : FIRST_WORDS) {
            fails(RINGS + "ring ", word + " plain places 2", FORM);
            fails(RINGS + "thing ", word + " pet in r at 0 size 1", FORM);
            fails(RINGS + "narrow ", word + " 0 by 1", FORM);
            fails(RINGS + "door ", word + " 0 q 1", FORM);
            fails(RINGS + "door r 0 ", word + " 1", FORM);
            fails(RINGS + "thing t pet in ", word + " at 0 size 1", FORM);
            fails(THING + "want ", word + " in r at 0 night 1 pays 1", FORM);
            fails(THING + "want t in ", word + " at 0 night 1 pays 1", FORM);
        }
        for (String word : "cellar damp plain attic places by piano broken pet in at size night pays".split(" ")) {
            stands(HOUSE + "ring " + word + " plain places 2;narrow " + word + " 0 by 1;door " + word + " 0 " + word
                + " 1;thing t plain in " + word + " at 0 size 1", 1);
            stands(HOUSE + "ring r plain places 2;thing " + word + " pet in r at 0 size 1;want " + word + " in r at 0 night 1 pays 1", 1);
        }
        stands(HOUSE + "ring rings plain places 2;thing lo pet in rings at 0 size 1;want lo in rings at 1 night 1 pays 1", 1);
    }

    private static void toldAheadOfUse() {
        CHECKS.term("each told once, ahead of its use");
        fails(HOUSE + "narrow ", "r 0 by 1;" + RING, UNTOLD);
        fails(HOUSE + "door ", "r 0 r 1;" + RING, UNTOLD);
        fails(HOUSE + "thing t pet in ", "r at 0 size 1;" + RING, UNTOLD);
        fails(RINGS + "want ", "t in r at 0 night 1 pays 1;thing t pet in r at 0 size 1", UNTOLD);
        fails(RINGS + "thing t pet in ", "t at 0 size 1", UNTOLD);
    }

    private static void firstFromTheLeft() {
        CHECKS.term("FAULTS, the first that is met from the left");
        fails("house cellar ", "6 damp ?", BOUNDS);
        fails(HOUSE + "ring r plain places ", "1;ring r ?", BOUNDS);
        fails(RINGS + "ring ", "q piano places 1", TWICE);
        fails(RINGS + "narrow ", "z 99 by 99", UNTOLD);
        fails(RINGS + "narrow r ", "3 by 99", BOUNDS);
        fails(RINGS + "narrow r 0 ", "at 99", FORM);
        fails(RINGS + "door r ", "3 z 0", BOUNDS);
        fails(RINGS + "thing t pet in ", "z at 99 size 99", UNTOLD);
        fails(THING + "thing u pet in r at ", "0 size 99", TWICE);
        fails(THING + "want t in r at 0 night ", "61 pays 100", BOUNDS);
        fails(RINGS + "found 1 at 1;lost ", "1 at 99", TWICE);
        fails("", "ring ?", LACKS);
        fails(rows(RINGS, "narrow q ", 6, " by 1") + ";", "narrow z ?", MANY);
    }

    private static void leastOfOnePlace() {
        CHECKS.term("of one place the least number");
        fails(HOUSE, "", FORM);
        fails("house cellar 1 damp", "", FORM);
        fails("house cellar 1 damp 0; lost", "", FORM);
        fails("   ", "", FORM);
        fails(HOUSE, "house cellar 1 damp 0", TWICE);
    }

    private static void form() {
        CHECKS.term("1 FORM: the first byte that begins no TOKEN, or TOKEN with which no HOUSE goes on (the end: its place).");
        String[] all = (HOUSE + RING + ";narrow r 0 by 1;door r 0 r 1;thing t pet in r at 0 size 1;want t in r at 0 night 1 pays 1"
            + ";found 1 at 1;lost 2 at 2").split("(?=;)");
        StringBuilder lines = new StringBuilder();
        for (String line : all) {
            String[] tokens = line.replace(";", "; ").split(" ");
            StringBuilder good = new StringBuilder(lines);
            for (int i = 0; i < tokens.length; i++) {
                boolean isWithin = i > 0 || good.length() == 0;
                if (isWithin) {
                    fails(good.toString(), "", FORM);
                    fails(good + " ", "", FORM);
                }
                fails(good + " ", tokens[i].equals(";") ? "0" : ";", FORM);
                fails(good + "  ", tokens[i].matches("\\d+") ? "x" : "5", FORM);
                if (tokens[i].matches("[a-z]{2,}")) {
                    almost(good + " ", tokens[i]);
                }
                fails(good + " ", "?", FORM);
                fails(good + " ", "0123", FORM);
                fails(good + " ", "abcdefghi", FORM);
                good.append(" ").append(tokens[i]);
            }
            lines.setLength(0);
            lines.append(good);
        }
        stands(lines.toString(), 1);
    }

    /** Another word in its stead: one letter another one, one less, one more. */
    private static void almost(String good, String word) {
        int last = word.length() - 1;
        fails(good, "x" + word.substring(1), FORM);
        fails(good, word.substring(0, last) + "x", FORM);
        fails(good, word.substring(0, last), FORM);
        fails(good, word.substring(1), FORM);
        fails(good, word + "s", FORM);
        fails(good, word.toUpperCase(), FORM);
    }

    private static void untold() {
        CHECKS.term("2 a NAME that isn't told, or is of another sort than must stand there; at it.");
        for (String notRing : new String[] {"z", "rr", "t"}) {
            fails(THING + "narrow ", notRing + " 0 by 1", UNTOLD);
            fails(THING + "door ", notRing + " 0 q 1", UNTOLD);
            fails(THING + "door r 0 ", notRing + " 1", UNTOLD);
            fails(THING + "thing u pet in ", notRing + " at 1 size 1", UNTOLD);
            fails(THING + "want t in ", notRing + " at 0 night 1 pays 1", UNTOLD);
        }
        for (String notThing : new String[] {"z", "tt", "r", "q"}) {
            fails(THING + "want ", notThing + " in r at 0 night 1 pays 1", UNTOLD);
        }
    }

    private static void namesTwice() {
        CHECKS.term("3 a NAME told again; at it;");
        fails(THING + "ring ", "r plain places 2", TWICE);
        fails(THING + "ring ", "q plain places 2", TWICE);
        fails(THING + "ring ", "t plain places 2", TWICE);
        fails(THING + "thing ", "t pet in r at 1 size 1", TWICE);
        fails(THING + "thing ", "r pet in r at 1 size 1", TWICE);
        fails(THING + "thing ", "q pet in r at 1 size 1", TWICE);
    }

    private static void placesTwice() {
        CHECKS.term("a place that is narrow already; at its WHOLE;");
        fails(RINGS + "narrow q 8 by 9;narrow r 2 by 1;narrow q ", "8 by 0", TWICE);
        fails(RINGS + "narrow q 0 by 0;narrow q ", "0 by 0", TWICE);
        stands(RINGS + "narrow q 0 by 0;narrow r 0 by 0;narrow q 1 by 0", 2);
        CHECKS.term("a second place of a door that is the first, or between which there is a door already; at its WHOLE;");
        fails(RINGS + "door q 8 q ", "8", TWICE);
        fails(RINGS + "door q 8 q 0;door r 0 r 1;door q 0 q ", "8", TWICE);
        fails(RINGS + "door q 8 q 0;door r 0 r 1;door r 0 r ", "1", TWICE);
        stands(RINGS + "door r 0 q 0;door r 0 q 1;door r 1 q 0;door r 1 q 1;door r 0 r 1", 2);
        CHECKS.term("a place with a thing; at its WHOLE;");
        fails(THING + "thing u pet in q at 8 size 1;thing v plain in q at ", "8 size 2", TWICE);
        fails(THING + "thing u pet in q at 8 size 1;thing v plain in r at ", "0 size 2", TWICE);
    }

    private static void nightsAndHouseTwice() {
        CHECKS.term("a night told already; at it;");
        fails(RINGS + "found 0 at 1;lost ", "0 at 1", TWICE);
        fails(RINGS + "lost 99 at 1;lost 98 at 1;found ", "099 at 2", TWICE);
        stands(RINGS + "lost 9 at 1;found 99 at 1;lost 90 at 1", 2);
        CHECKS.term("a second house: at that WORD.");
        fails(HOUSE, "house cellar 1 damp 0;" + RING, TWICE);
        fails(THING, "house", TWICE);
        fails(THING, "house ?", TWICE);
    }

    private static void bounds() {
        CHECKS.term("4 a WHOLE out of bounds; at it.");
        fails("house cellar ", "006 damp 0;" + RING, BOUNDS);
        fails("house cellar ", "000 damp 0;" + RING, BOUNDS);
        fails("house cellar 1 damp ", "101;" + RING, BOUNDS);
        fails(HOUSE + "ring r plain places ", "010;lost 1 at 1", BOUNDS);
        fails(THING + "thing u pet in r at ", "003 size 1", BOUNDS);
        fails(THING + "want t in r at 0 night 60 pays ", "100;lost 1 at 1", BOUNDS);
    }

    private static void many() {
        CHECKS.term("5 MANY: a LINE more of its sort than there is room for, at its first WORD.");
        String[] full = Told.FULLEST.split(";");
        CHECKS.due("lines of the fullest house", full.length, 35);
        stands(Told.FULLEST, 4);
        for (int i = 1; i < FIRST_WORDS.length; i++) {
            fails(Told.FULLEST + ";", FIRST_WORDS[i], MANY);
            fails(Told.FULLEST + "; ", FIRST_WORDS[i] + " ?", MANY);
        }
        fails(Told.FULLEST + ";", "house", TWICE);
        fails(Told.FULLEST + ";", "", FORM);
    }

    private static void lacks() {
        CHECKS.term("6 LACKS: any LINE ahead of the house; at its WORD; at the end: no ring.");
        for (int i = 1; i < FIRST_WORDS.length; i++) {
            fails("", FIRST_WORDS[i], LACKS);
            fails("  ", FIRST_WORDS[i] + " ?", LACKS);
        }
        fails("", RING, LACKS);
        fails("house cellar 1 damp 0", "", LACKS);
        fails("house cellar 1 damp 0   ", "", LACKS);
        fails(HOUSE + "found 1 at 1;lost 2 at 2", "", LACKS);
    }
}
