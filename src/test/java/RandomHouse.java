import java.util.ArrayList;
import java.util.List;
import java.util.Random;

/** Texts of houses by a row of numbers: whole ones, and ones in which something is spoilt. */
final class RandomHouse {
    private static final String[] SPOILS = {"house", "ring", "narrow", "door", "thing", "want", "found", "lost", "plain", "cellar",
        "attic", "piano", "broken", "pet", "in", "at", "by", "size", "places", "night", "pays", "damp", ";", "0", "1", "2", "3", "4", "9",
        "10", "11", "12", "60", "61", "99", "100", "101", "000", "0000", "ra", "rb", "ta", "tb", "zz", "abcdefgh", "abcdefghi", "A", "-", "\t",
        "\u00e9", "", " ", ";;", "house cellar 1 damp 1", "ring ra", "found 5 at 5;found 5", "lost 7 at 1", "thing ta", "want ta"};

    private final Random random;
    private final List<Integer> ringSizes = new ArrayList<>();
    private final List<String> lines = new ArrayList<>();
    private int things;

    RandomHouse(Random random) {
        this.random = random;
    }

    private int up(int n) {
        return random.nextInt(n);
    }

    private static String ring(int r) {
        return "r" + (char) ('a' + r);
    }

    private static String thing(int t) {
        return "t" + (char) ('a' + t);
    }

    /* A place that may have been told already, so that whole texts come more seldom than not. */
    private String placeIn(int r) {
        return ring(r) + " " + up(ringSizes.get(r));
    }

    String text() {
        lines.clear();
        ringSizes.clear();
        things = 0;
        int[] damps = {0, 100, 50, up(101)};
        lines.add("house cellar " + (1 + up(5)) + " damp " + damps[up(4)]);
        addRings();
        addPlaces();
        addThings();
        for (int i = up(7); i > 0 && things > 0; i--) {
            int r = up(ringSizes.size());
            lines.add("want " + thing(up(things)) + " in " + placeIn(r).replace(" ", " at ") + " night " + (1 + up(up(2) == 0 ? 8 : 60)) + " pays " + (1 + up(9)));
        }
        addMarks();
        return String.join(";", lines);
    }

    private void addRings() {
        String[] sorts = {"plain", "cellar", "attic"};
        for (int r = up(4); r >= 0; r--) {
            int size = 2 + up(up(2) == 0 ? 3 : 8);
            lines.add("ring " + ring(ringSizes.size()) + " " + sorts[up(3)] + " places " + size);
            ringSizes.add(size);
        }
    }

    private void addPlaces() {
        List<String> told = new ArrayList<>();
        for (int i = up(7); i > 0; i--) {
            String place = placeIn(up(ringSizes.size()));
            if (!told.contains(place)) {
                told.add(place);
                lines.add("narrow " + place + " by " + up(10));
            }
        }
        told.clear();
        for (int i = up(6); i > 0; i--) {
            String one = placeIn(up(ringSizes.size()));
            String two = placeIn(up(ringSizes.size()));
            if (!one.equals(two) && !told.contains(one + two)) {
                told.add(one + two);
                told.add(two + one);
                lines.add("door " + one + " " + two);
            }
        }
    }

    private void addThings() {
        String[] kinds = {"plain", "plain", "plain", "plain", "piano", "broken", "pet", "pet"};
        List<String> told = new ArrayList<>();
        for (int i = up(9); i > 0; i--) {
            String place = placeIn(up(ringSizes.size()));
            if (!told.contains(place) && things < 7) {
                told.add(place);
                lines.add("thing " + thing(things) + " " + kinds[up(8)] + " in " + place.replace(" ", " at ") + " size " + (1 + up(9)));
                things++;
            }
        }
    }

    private void addMarks() {
        int places = 2 + up(11);
        int step = 1 + up(places - 1);
        int first = up(places);
        List<Integer> told = new ArrayList<>();
        for (int i = up(7); i > 0; i--) {
            int night = up(up(2) == 0 ? 10 : 100);
            boolean isFound = up(2) == 0;
            int place = isFound && up(6) > 0 ? (first + step * night) % places : up(12);
            if (!told.contains(night)) {
                told.add(night);
                lines.add((isFound ? "found " : "lost ") + night + " at " + place);
            }
        }
    }

    String spoilt() {
        String text = text();
        List<String> parts = new ArrayList<>(List.of(text.replace(";", " ; ").split(" ")));
        for (int i = up(3); i > 0; i--) {
            int at = up(parts.size());
            switch (up(5)) {
                case 0:
                    parts.remove(at);
                    break;
                case 1:
                    parts.add(at, SPOILS[up(SPOILS.length)]);
                    break;
                case 2:
                    parts.add(at, parts.get(up(parts.size())));
                    break;
                default:
                    parts.set(at, SPOILS[up(SPOILS.length)]);
            }
            if (parts.isEmpty()) {
                parts.add("");
            }
        }
        if (up(6) == 0) {
            lines.add(up(2), lines.get(up(lines.size())));
            parts = new ArrayList<>(List.of(String.join(";", lines).split(" ")));
        }
        String spoilt = String.join(" ", parts);
        if (up(8) == 0) {
            spoilt = spoilt.substring(0, up(spoilt.length() + 1));
        }
        if (up(8) == 0) {
            spoilt = spoilt.replace(" ; ", ";");
        }
        return spoilt;
    }
}
