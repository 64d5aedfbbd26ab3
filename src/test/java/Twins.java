import java.util.NoSuchElementException;

/** Objects made by the same calls: what one call changes shows if only one of two has had it. */
final class Twins {
    static final String TEXT = Told.FULLEST;

    private Twins() {
    }

    /** Some of all: a house, nights gone by, held things, acts to undo, two images, a tape, a fault of before. */
    static NightRound busy() {
        NightRound x = Told.house(TEXT);
        Told.tell(x, "house cellar 9");
        x.night();
        x.hold(3);
        x.image();
        x.night();
        x.put(5, 1, 4);
        x.hold(6);
        x.image();
        x.night();
        Told.feed(x, "house cellar 1 damp 0;ring r plain places 2;lost 5 at 5");
        x.trouble();
        return x;
    }

    static NightRound fresh() {
        return new NightRound();
    }

    /** All that can be seen but for the latest call's trouble; what is seen by acts last of all: the object is spent then. */
    static String seen(NightRound x) {
        StringBuilder row = new StringBuilder();
        row.append("fault ").append(x.fault()).append(" sizes");
        for (int what = 0; what <= 12; what++) {
            row.append(' ').append(x.size(what));
        }
        addNow(row, x);
        row.append(" goes ").append(x.goes()).append(" blocked ").append(x.blocked()).append(" kept ").append(x.kept());
        row.append(" rules ").append(x.rules()).append(" look ").append(x.look()).append(" rests ").append(x.rests(2));
        for (int i = 0; i <= 16; i++) {
            row.append(" undo ").append(x.undo()).append(x.size(9));
            addNow(row, x);
        }
        for (int image = 0; image < 3; image++) {
            row.append(" back ").append(x.back(image)).append(x.size(9));
            addNow(row, x);
        }
        row.append(" tape ").append(x.house(x.size(12))).append(x.fault()).append(x.size(3));
        return row.toString();
    }

    /** What is answered of a house in whatever state it is. */
    static String answers(NightRound x) {
        StringBuilder row = new StringBuilder("rings");
        for (int r = 0; r < 4; r++) {
            for (int p = 0; p < 9; p++) {
                row.append(' ').append(x.ring(r, p)).append(' ').append(x.at(r, p)).append(' ').append(x.narrow(r, p));
            }
        }
        row.append(" things");
        for (int t = 0; t < 7; t++) {
            row.append(' ').append(x.thing(t, 0)).append(' ').append(x.thing(t, 3)).append(' ').append(x.ahead(t)).append(' ').append(x.behind(t, 60))
                .append(' ').append(x.steps(t, 200)).append(' ').append(x.holds(t, 0, 1, 9)).append(' ').append(x.putFor(t, 1, 9))
                .append(' ').append(x.damp(t, 5, 20)).append(' ').append(x.meets(t, 0));
        }
        row.append(" all ").append(x.meeting()).append(' ').append(x.still()).append(' ').append(x.period()).append(' ').append(x.mostMeet())
            .append(' ').append(x.toWiden()).append(' ').append(x.worstHeld(60)).append(' ').append(x.pays(60)).append(' ').append(x.best(60))
            .append(' ').append(x.bestPays(60)).append(' ').append(x.kept()).append(' ').append(x.dampSteps(7, 60));
        row.append(" box ").append(x.rules()).append(' ').append(x.ruleAt(0)).append(' ').append(x.there(0, 0)).append(' ').append(x.surely(0))
            .append(' ').append(x.look()).append(' ').append(x.lookLeaves());
        return row.toString();
    }

    private static void addNow(StringBuilder row, NightRound x) {
        row.append(" now");
        for (int t = 0; t < x.size(4); t++) {
            row.append(' ').append(x.thing(t, 1)).append(x.thing(t, 2)).append(x.thing(t, 4));
        }
        row.append(" held");
        try {
            for (int i = 0; i < 8; i++) {
                row.append(' ').append(x.led(i));
            }
        } catch (NoSuchElementException e) {
            row.append(" and no more");
        }
    }
}
