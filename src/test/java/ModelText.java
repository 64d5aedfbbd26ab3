import java.util.ArrayList;
import java.util.List;
import java.util.Map;
import java.util.Set;
import java.util.regex.Matcher;
import java.util.regex.Pattern;

/** How the model reads a text: by a row of what must stand in each line. */
final class ModelText {
    private static final Set<String> FIRST_WORDS = Set.of("house", "ring", "narrow", "door", "thing", "want", "found", "lost");
    private static final Map<String, String> ROWS = Map.of(
        "house", "cellar 1..5 damp 0..100",
        "ring", "NEW SORT places 2..9",
        "narrow", "RING PLACE by 0..9",
        "door", "RING PLACE RING PLACE",
        "thing", "NEW KIND in RING at PLACE size 1..9",
        "want", "THING in RING at PLACE night 1..60 pays 1..99",
        "found", "0..99 at 0..11",
        "lost", "0..99 at 0..11");
    private static final Pattern TOKEN = Pattern.compile("(?<![a-z])[a-z]{1,8}(?![a-z])|(?<![0-9])[0-9]{1,3}(?![0-9])|;");

    private static final class Fault extends Exception {
        private static final long serialVersionUID = 1L;
        private final int number;

        Fault(int number) {
            this.number = number;
        }
    }

    final Model.House house = new Model.House();
    int fault;
    int place;
    private final String text;
    private int next;
    private String token;
    private final List<Integer> numbers = new ArrayList<>();
    private final List<String> words = new ArrayList<>();

    ModelText(List<Integer> bytes) {
        StringBuilder all = new StringBuilder();
        bytes.forEach(b -> all.append((char) (int) b));
        text = all.toString();
    }

    void read() {
        try {
            do {
                take();
                line();
                take();
            } while (token.equals(";"));
            must(token.isEmpty(), 1);
            must(!house.rings.isEmpty(), 6);
        } catch (Fault f) {
            fault = f.number;
        }
    }

    /** The token that comes, "" for the end; its place is kept for a fault. */
    private void take() throws Fault {
        while (next < text.length() && text.charAt(next) == ' ') {
            next++;
        }
        place = next;
        token = "";
        if (next < text.length()) {
            Matcher m = TOKEN.matcher(text);
            must(m.find(next) && m.start() == next, 1);
            token = m.group();
            next = m.end();
        }
    }

    private void must(boolean so, int number) throws Fault {
        if (!so) {
            throw new Fault(number);
        }
    }

    private void line() throws Fault {
        String first = token;
        must(FIRST_WORDS.contains(first), 1);
        if (first.equals("house")) {
            must(!house.told, 3);
        } else {
            must(room(first) > 0, 5);
            must(house.told, 6);
        }
        numbers.clear();
        words.clear();
        for (String due : ROWS.get(first).split(" ")) {
            take();
            one(first, due);
        }
        add(first);
    }

    private int room(String first) {
        switch (first) {
            case "ring":
                return 4 - house.rings.size();
            case "narrow":
                return 6 - house.narrow.size();
            case "door":
                return 5 - house.doors.size();
            case "thing":
                return 7 - house.things.size();
            case "want":
                return 6 - house.wants.size();
            default:
                return 6 - house.marks.size();
        }
    }

    private void one(String first, String due) throws Fault {
        if (due.equals("PLACE") || due.contains("..")) {
            must(!token.isEmpty() && Character.isDigit(token.charAt(0)), 1);
            whole(first, due, Integer.parseInt(token));
        } else if (due.equals("SORT") || due.equals("KIND")) {
            must((due.equals("SORT") ? Set.of("plain", "cellar", "attic") : Set.of("plain", "piano", "broken", "pet")).contains(token), 1);
            words.add(token);
        } else if (Character.isUpperCase(due.charAt(0))) {
            must(token.matches("[a-z]+") && !FIRST_WORDS.contains(token), 1);
            name(due);
        } else {
            must(token.equals(due), 1);
        }
    }

    private void name(String due) throws Fault {
        if (due.equals("NEW")) {
            must(!house.rings.contains(token) && !house.things.contains(token), 3);
            words.add(token);
        } else {
            List<String> names = due.equals("RING") ? house.rings : house.things;
            must(names.contains(token), 2);
            numbers.add(names.indexOf(token));
        }
    }

    private Model.Place placeFrom(int i) {
        return new Model.Place(numbers.get(i), numbers.get(i + 1));
    }

    private void whole(String first, String due, int value) throws Fault {
        if (due.equals("PLACE")) {
            must(value < house.sizes.get(numbers.get(numbers.size() - 1)), 4);
        } else {
            String[] ends = due.split("\\.\\.");
            must(value >= Integer.parseInt(ends[0]) && value <= Integer.parseInt(ends[1]), 4);
        }
        numbers.add(value);
        boolean isPlace = due.equals("PLACE");
        if (first.equals("narrow") && isPlace) {
            must(!house.narrow.containsKey(placeFrom(0)), 3);
        } else if (first.equals("door") && numbers.size() == 4) {
            boolean twice = house.doors.contains(new Model.Door(placeFrom(0), placeFrom(2)))
                || house.doors.contains(new Model.Door(placeFrom(2), placeFrom(0)));
            must(!twice && !placeFrom(0).equals(placeFrom(2)), 3);
        } else if (first.equals("thing") && isPlace) {
            must(!house.first.contains(placeFrom(0)), 3);
        } else if ((first.equals("found") || first.equals("lost")) && numbers.size() == 1) {
            must(!house.marks.containsKey(value), 3);
        }
    }

    private void add(String first) {
        switch (first) {
            case "house":
                house.told = true;
                house.cellar = numbers.get(0);
                house.damp = numbers.get(1);
                break;
            case "ring":
                house.rings.add(words.get(0));
                house.sorts.add(words.get(1));
                house.sizes.add(numbers.get(0));
                break;
            case "narrow":
                house.narrow.put(placeFrom(0), numbers.get(2));
                break;
            case "door":
                house.doors.add(new Model.Door(placeFrom(0), placeFrom(2)));
                break;
            case "thing":
                house.things.add(words.get(0));
                house.kinds.add(words.get(1));
                house.first.add(placeFrom(0));
                house.large.add(numbers.get(2));
                break;
            case "want":
                house.wants.add(new Model.Want(numbers.get(0), placeFrom(1), numbers.get(3), numbers.get(4)));
                break;
            default:
                house.marks.put(numbers.get(0), new Model.Mark(numbers.get(1), first.equals("found")));
        }
    }
}
