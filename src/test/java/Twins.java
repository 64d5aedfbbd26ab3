import java.util.NoSuchElementException;

/** Objects made by the same calls: what one call changes shows if only one of two has had it. */
final class Twins {
    static final String TEXT = Told.FULLEST;

    private Twins() {
    }

    /** Some of all: a house, nights gone by, held things, acts to undo, two images, a tape, a fault of before. */
    static NightRound busy() {
        NightRound x = Told.house(TEXT);
        Told.tell(x, "house cellar 9");
        x.night();
        x.hold(3);
        x.image();
        x.night();
        x.put(5, 1, 4);
        x.hold(6);
        x.image();
        x.night();
        Told.feed(x, "house cellar 1 damp 0;ring r plain places 2;lost 5 at 5");
        x.trouble();
        return x;
    }

    static NightRound fresh() {
        return new NightRound();
    }

    /** All that can be seen but for the latest call's trouble; what is seen by acts last of all: the object is spent then. */
    static String seen(NightRound x) {
        StringBuilder row = new StringBuilder();
        row.append("fault ").append(x.fault()).append(" sizes");
        for (int what = 0; what <= 12; what++) {
            row.append(' ').append(x.size(what));
        }
        addNow(row, x);
        row.append(" goes ").append(x.goes()).append(" blocked ").append(x.blocked()).append(" kept ").append(x.kept());
        row.append(" rules ").append(x.rules()).append(" look ").append(x.look()).append(" rests ").append(x.rests(2));
        for (int i = 0; i <= 16; i++) {
            row.append(" undo ").append(x.undo()).append(x.size(9));
            addNow(row, x);
        }
        for (int image = 0; image < 3; image++) {
            row.append(" back ").append(x.back(image)).append(x.size(9));
            addNow(row, x);
        }
        row.append(" tape ").append(x.house(x.size(12))).append(x.fault()).append(x.size(3));
        return row.toString();
    }

    private static void addNow(StringBuilder row, NightRound x) {
        row.append(" now");
        for (int t = 0; t < x.size(4); t++) {
            row.append(' ').append(x.thing(t, 1)).append(x.thing(t, 2)).append(x.thing(t, 4));
        }
        row.append(" held");
        try {
            for (int i = 0; i < 8; i++) {
                row.append(' ').append(x.led(i));
            }
        } catch (NoSuchElementException e) {
            row.append(" and no more");
        }
    }
}
