import java.util.ArrayDeque;
import java.util.ArrayList;
import java.util.Comparator;
import java.util.Deque;
import java.util.HashMap;
import java.util.HashSet;
import java.util.List;
import java.util.Map;
import java.util.NoSuchElementException;
import java.util.Set;
import java.util.TreeMap;
import java.util.TreeSet;
import java.util.function.Predicate;

/** The document's promises once more, as plainly as they can be written, however slow: ModelTest compares both. */
final class Model {
    record Place(int ring, int place) { }

    record Door(Place one, Place two) { }

    record Want(int thing, Place place, int night, int pays) { }

    record Mark(int place, boolean found) { }

    record Rule(int places, int step, int first) {
        int at(int night) {
            return (first + step * night) % places;
        }
    }

    record State(List<Place> places, Set<Integer> held, int night) { }

    record Step(State state, Set<Integer> went) { }

    static final class House {
        int cellar;
        int damp;
        boolean told;
        final List<String> rings = new ArrayList<>();
        final List<String> sorts = new ArrayList<>();
        final List<Integer> sizes = new ArrayList<>();
        final Map<Place, Integer> narrow = new TreeMap<>(Comparator.comparingInt(Place::ring).thenComparingInt(Place::place));
        final List<Door> doors = new ArrayList<>();
        final List<String> things = new ArrayList<>();
        final List<String> kinds = new ArrayList<>();
        final List<Integer> large = new ArrayList<>();
        final List<Place> first = new ArrayList<>();
        final List<Want> wants = new ArrayList<>();
        final Map<Integer, Mark> marks = new TreeMap<>();
    }

    private final List<Integer> tape = new ArrayList<>();
    private House house;
    private State now;
    private final Deque<State> past = new ArrayDeque<>();
    private final List<State> images = new ArrayList<>();
    private int trouble;
    private int fault;
    private int place;

    private int no(int why) {
        trouble = why;
        return -1;
    }

    private int yes(int answer) {
        trouble = 0;
        return answer;
    }

    private boolean isThing(int t) {
        return house != null && t >= 0 && t < house.things.size();
    }

    private boolean isPlace(int r, int p) {
        return house != null && r >= 0 && r < house.rings.size() && p >= 0 && p < house.sizes.get(r);
    }

    private static boolean within(int n, int least, int most) {
        return n >= least && n <= most;
    }

    int feed(int a, int b, int c, int d, int e) {
        if (tape.size() > 880) {
            return -1;
        }
        for (int number : new int[] {a, b, c, d, e}) {
            for (int i = 3; i >= 0; i--) {
                tape.add(number >>> 8 * i & 255);
            }
        }
        return tape.size();
    }

    int house(int n) {
        if (!within(n, 0, tape.size())) {
            return no(2);
        }
        ModelText text = new ModelText(tape.subList(0, n));
        text.read();
        tape.clear();
        fault = text.fault;
        place = text.place;
        if (fault != 0) {
            return no(4);
        }
        house = text.house;
        now = new State(List.copyOf(house.first), Set.of(), 0);
        past.clear();
        images.clear();
        return yes(house.rings.size());
    }

    int fault() {
        return fault;
    }

    int where() {
        return trouble == 4 ? place : -1;
    }

    private int thingAt(State s, Place p) {
        return s.places().indexOf(p);
    }

    private Place next(Place p) {
        int places = house.sizes.get(p.ring());
        int by = house.sorts.get(p.ring()).equals("attic") ? places - 1 : 1;
        return new Place(p.ring(), (p.place() + by) % places);
    }

    private boolean ringRests(State s, int t) {
        boolean cellar = house.sorts.get(s.places().get(t).ring()).equals("cellar");
        return cellar && (s.night() + 1) % house.cellar != 0;
    }

    private boolean staysByItself(State s, int t, Set<Integer> damped, Place widened) {
        String kind = house.kinds.get(t);
        Place to = next(s.places().get(t));
        boolean tight = !to.equals(widened) && house.narrow.containsKey(to) && house.large.get(t) > house.narrow.get(to);
        return ringRests(s, t) || s.held().contains(t) || damped.contains(t) || kind.equals("broken")
            || kind.equals("piano") && (s.night() + 1) % 9 != 0 || tight && !kind.equals("pet");
    }

    private boolean stays(State s, int t, Set<Integer> damped, Place widened, Set<Integer> seen) {
        if (staysByItself(s, t, damped, widened)) {
            return true;
        }
        int inFront = thingAt(s, next(s.places().get(t)));
        return inFront >= 0 && seen.add(t) && stays(s, inFront, damped, widened, seen);
    }

    private Step step(State s, Set<Integer> damped, Place widened) {
        Set<Integer> went = new TreeSet<>();
        List<Place> places = new ArrayList<>(s.places());
        for (int t = 0; t < places.size(); t++) {
            if (!stays(s, t, damped, widened, new HashSet<>())) {
                went.add(t);
                places.set(t, next(s.places().get(t)));
            }
        }
        return new Step(new State(places, s.held(), s.night() + 1), went);
    }

    private State later(State s, int nights) {
        State later = s;
        for (int k = 0; k < nights; k++) {
            later = step(later, Set.of(), null).state();
        }
        return later;
    }

    private int moves(State s, int nights, Place widened) {
        State later = s;
        int sum = 0;
        for (int k = 0; k < nights; k++) {
            Step step = step(later, Set.of(), widened);
            sum += step.went().size();
            later = step.state();
        }
        return sum;
    }

    private static int bits(Set<Integer> set) {
        return set.stream().mapToInt(t -> 1 << t).sum();
    }

    private boolean meet(State s, int t, int other) {
        Place one = s.places().get(t);
        Place two = s.places().get(other);
        return house.doors.contains(new Door(one, two)) || house.doors.contains(new Door(two, one));
    }

    private static int ten(Place p) {
        return 10 * p.ring() + p.place();
    }

    int ring(int r, int what) {
        if (!isPlace(r, 0) || !within(what, 0, 3)) {
            return no(1);
        }
        Set<Integer> inIt = new TreeSet<>();
        for (int t = 0; t < house.things.size(); t++) {
            if (now.places().get(t).ring() == r) {
                inIt.add(t);
            }
        }
        int sort = List.of("plain", "cellar", "attic").indexOf(house.sorts.get(r));
        return yes(List.of(sort, house.sizes.get(r), bits(inIt), house.sizes.get(r) - inIt.size()).get(what));
    }

    int thing(int t, int what) {
        if (!isThing(t) || !within(what, 0, 4)) {
            return no(1);
        }
        int kind = List.of("plain", "piano", "broken", "pet").indexOf(house.kinds.get(t));
        Place p = now.places().get(t);
        return yes(List.of(kind, p.ring(), p.place(), house.large.get(t), now.held().contains(t) ? 1 : 0).get(what));
    }

    int at(int r, int p) {
        if (!isPlace(r, p)) {
            return no(1);
        }
        int t = thingAt(now, new Place(r, p));
        return yes(t < 0 ? -2 : t);
    }

    int narrow(int r, int p) {
        return isPlace(r, p) ? yes(house.narrow.getOrDefault(new Place(r, p), -2)) : no(1);
    }

    int ahead(int t) {
        return isThing(t) ? yes(next(now.places().get(t)).place()) : no(1);
    }

    int goes() {
        return house == null ? no(1) : yes(bits(step(now, Set.of(), null).went()));
    }

    int blocked() {
        if (house == null) {
            return no(1);
        }
        int bits = 0;
        Set<Integer> went = step(now, Set.of(), null).went();
        for (int t = 0; t < house.things.size(); t++) {
            bits += !went.contains(t) && !staysByItself(now, t, Set.of(), null) ? 1 << t : 0;
        }
        return yes(bits);
    }

    int meeting() {
        if (house == null) {
            return no(1);
        }
        for (int t = 0; t < house.things.size(); t++) {
            for (int u = t + 1; u < house.things.size(); u++) {
                if (meet(now, t, u)) {
                    return yes(10 * t + u);
                }
            }
        }
        return yes(-2);
    }

    int behind(int t, int nights) {
        if (!isThing(t)) {
            return no(1);
        }
        return within(nights, 0, 200) ? yes(ten(later(now, nights).places().get(t))) : no(2);
    }

    private int firstNight(int from, Predicate<State> so) {
        State s = later(now, from);
        for (int k = from; k <= 200; k++) {
            if (so.test(s)) {
                return yes(k);
            }
            s = later(s, 1);
        }
        return yes(-2);
    }

    int when(int t, int r, int p) {
        return isThing(t) && isPlace(r, p) ? firstNight(0, s -> s.places().get(t).equals(new Place(r, p))) : no(1);
    }

    private boolean isPair(int t, int other) {
        return isThing(t) && isThing(other) && t != other;
    }

    int meets(int t, int other) {
        return isPair(t, other) ? firstNight(0, s -> meet(s, t, other)) : no(1);
    }

    int still() {
        return house == null ? no(1) : firstNight(0, s -> step(s, Set.of(), null).went().isEmpty());
    }

    int period() {
        return house == null ? no(1) : firstNight(1, s -> s.places().equals(now.places()));
    }

    int steps(int t, int nights) {
        if (!isThing(t)) {
            return no(1);
        }
        if (!within(nights, 0, 200)) {
            return no(2);
        }
        int count = 0;
        for (int k = 0; k < nights; k++) {
            count += step(later(now, k), Set.of(), null).went().contains(t) ? 1 : 0;
        }
        return yes(count);
    }

    private int countMeetings(int t, int other, int nights) {
        int count = 0;
        State s = now;
        for (int k = 1; k <= nights; k++) {
            s = later(s, 1);
            count += meet(s, t, other) ? 1 : 0;
        }
        return count;
    }

    int meetings(int t, int other, int nights) {
        if (!isPair(t, other)) {
            return no(1);
        }
        return within(nights, 0, 200) ? yes(countMeetings(t, other, nights)) : no(2);
    }

    int mostMeet() {
        if (house == null) {
            return no(1);
        }
        int most = 0;
        int answer = -2;
        for (int t = 0; t < house.things.size(); t++) {
            for (int u = t + 1; u < house.things.size(); u++) {
                int count = countMeetings(t, u, 60);
                if (count > most) {
                    most = count;
                    answer = 10 * t + u;
                }
            }
        }
        return yes(answer);
    }

    int toWiden() {
        if (house == null) {
            return no(1);
        }
        int most = moves(now, 60, null);
        int answer = -2;
        for (Place p : house.narrow.keySet()) {
            int moves = moves(now, 60, p);
            if (moves > most) {
                most = moves;
                answer = ten(p);
            }
        }
        return yes(answer);
    }

    private State holding(int more) {
        Set<Integer> held = new HashSet<>(now.held());
        for (int t = 0; t < house.things.size(); t++) {
            if ((more >> t & 1) != 0) {
                held.add(t);
            }
        }
        return new State(now.places(), held, now.night());
    }

    int worstHeld(int nights) {
        if (house == null) {
            return no(1);
        }
        if (!within(nights, 0, 60)) {
            return no(2);
        }
        int answer = -2;
        int fewest = Integer.MAX_VALUE;
        for (int t = 0; t < house.things.size(); t++) {
            int moves = moves(holding(1 << t), nights, null);
            if (moves < fewest) {
                fewest = moves;
                answer = t;
            }
        }
        return yes(answer);
    }

    /** All that could be held more, fewest first, then by bits. */
    private List<Integer> holdings() {
        List<Integer> all = new ArrayList<>();
        for (int bits = 0; bits < 1 << house.things.size(); bits++) {
            if ((bits & bits(now.held())) == 0) {
                all.add(bits);
            }
        }
        all.sort(Comparator.comparingInt((Integer bits) -> Integer.bitCount(bits)).thenComparingInt(bits -> bits));
        return all;
    }

    private int firstHolding(int nights, Predicate<State> so) {
        for (int bits : holdings()) {
            if (so.test(later(holding(bits), nights))) {
                return yes(bits);
            }
        }
        return yes(-2);
    }

    int holds(int t, int r, int p, int nights) {
        if (!isThing(t) || !isPlace(r, p)) {
            return no(1);
        }
        return within(nights, 0, 30) ? firstHolding(nights, s -> s.places().get(t).equals(new Place(r, p))) : no(2);
    }

    private State put(State s, int t, Place p) {
        List<Place> places = new ArrayList<>(s.places());
        places.set(t, p);
        return new State(places, s.held(), s.night());
    }

    int putFor(int t, int p, int nights) {
        if (!isThing(t) || !isPlace(now.places().get(t).ring(), p)) {
            return no(1);
        }
        if (!within(nights, 0, 60)) {
            return no(2);
        }
        int r = now.places().get(t).ring();
        for (int from = 0; from < house.sizes.get(r); from++) {
            int there = thingAt(now, new Place(r, from));
            boolean free = there < 0 || there == t;
            if (free && later(put(now, t, new Place(r, from)), nights).places().get(t).equals(new Place(r, p))) {
                return yes(from);
            }
        }
        return yes(-2);
    }

    int holdsToMeet(int t, int other, int nights) {
        if (!isPair(t, other)) {
            return no(1);
        }
        return within(nights, 0, 30) ? firstHolding(nights, s -> meet(s, t, other)) : no(2);
    }

    private Set<Integer> paid(State from, int n) {
        Set<Integer> paid = new TreeSet<>();
        State s = from;
        for (int k = 1; k <= n; k++) {
            s = later(s, 1);
            for (int w = 0; w < house.wants.size(); w++) {
                Want want = house.wants.get(w);
                if (want.night() == s.night() && s.places().get(want.thing()).equals(want.place())) {
                    paid.add(w);
                }
            }
        }
        return paid;
    }

    private int worth(Set<Integer> paid) {
        return paid.stream().mapToInt(w -> house.wants.get(w).pays()).sum();
    }

    private int wantsNo(int n) {
        if (house == null) {
            return 1;
        }
        return within(n, 0, 60) ? 0 : 2;
    }

    int pays(int n) {
        return wantsNo(n) != 0 ? no(wantsNo(n)) : yes(worth(paid(now, n)));
    }

    private int[] bestOf(int n) {
        int[] best = {0, -1};
        for (int bits : holdings()) {
            int worth = worth(paid(holding(bits), n));
            if (worth > best[1]) {
                best = new int[] {bits, worth};
            }
        }
        return best;
    }

    int best(int n) {
        return wantsNo(n) != 0 ? no(wantsNo(n)) : yes(bestOf(n)[0]);
    }

    int bestPays(int n) {
        return wantsNo(n) != 0 ? no(wantsNo(n)) : yes(bestOf(n)[1]);
    }

    int kept() {
        return house == null ? no(1) : yes(bits(paid(now, 60)));
    }

    private List<Rule> ruleList() {
        List<Rule> rules = new ArrayList<>();
        for (int places = 2; places <= 12; places++) {
            for (int step = 1; step < places; step++) {
                for (int first = 0; first < places; first++) {
                    Rule rule = new Rule(places, step, first);
                    if (house.marks.entrySet().stream().allMatch(m -> (rule.at(m.getKey()) == m.getValue().place()) == m.getValue().found())) {
                        rules.add(rule);
                    }
                }
            }
        }
        return rules;
    }

    int rules() {
        return house == null ? no(1) : yes(ruleList().size());
    }

    int ruleAt(int i) {
        if (house == null || !within(i, 0, ruleList().size() - 1)) {
            return no(1);
        }
        Rule rule = ruleList().get(i);
        return yes(10_000 * rule.places() + 100 * rule.step() + rule.first());
    }

    private static int count(List<Rule> rules, int night, int p) {
        int count = 0;
        for (Rule rule : rules) {
            count += rule.at(night) == p ? 1 : 0;
        }
        return count;
    }

    int there(int night, int p) {
        if (house == null) {
            return no(1);
        }
        return within(night, 0, 99) && within(p, 0, 11) ? yes(count(ruleList(), night, p)) : no(2);
    }

    int surely(int night) {
        if (house == null) {
            return no(1);
        }
        if (!within(night, 0, 99)) {
            return no(2);
        }
        List<Rule> rules = ruleList();
        for (int k = night; k <= 99; k++) {
            if (!rules.isEmpty() && count(rules, k, 0) == rules.size()) {
                return yes(k);
            }
        }
        return yes(-2);
    }

    private int[] lookOf() {
        List<Rule> rules = ruleList();
        int[] best = {-2, -2};
        for (int night = 0; night <= 99 && !rules.isEmpty(); night++) {
            for (int p = 0; p <= 11; p++) {
                int count = count(rules, night, p);
                int left = Math.max(count, rules.size() - count);
                if (best[0] < 0 || left < best[1]) {
                    best = new int[] {100 * night + p, left};
                }
            }
        }
        return best;
    }

    int look() {
        return house == null ? no(1) : yes(lookOf()[0]);
    }

    int lookLeaves() {
        return house == null ? no(1) : yes(lookOf()[1]);
    }

    private static int has(int worth, int own, int others) {
        return (own > others ? worth : own < others ? 0 : worth / 2) - own * own;
    }

    int heir(int worth, int one, int other, boolean ofOther) {
        if (house == null || !within(worth, 0, 99) || !within(one, 0, 6) || !within(other, 0, 6)) {
            no(house == null ? 1 : 2);
            return -100;
        }
        return yes(ofOther ? has(worth, other, one) : has(worth, one, other));
    }

    private static int mostOf(int worth, int others) {
        int most = Integer.MIN_VALUE;
        for (int own = 0; own <= 6; own++) {
            most = Math.max(most, has(worth, own, others));
        }
        return most;
    }

    private List<Integer> restList(int worth) {
        List<Integer> rests = new ArrayList<>();
        for (int pair = 0; pair < 49; pair++) {
            int one = pair / 7;
            int other = pair % 7;
            if (has(worth, one, other) == mostOf(worth, other) && has(worth, other, one) == mostOf(worth, one)) {
                rests.add(10 * one + other);
            }
        }
        return rests;
    }

    int rests(int worth) {
        if (house == null) {
            return no(1);
        }
        return within(worth, 0, 99) ? yes(restList(worth).size()) : no(2);
    }

    int rest(int worth) {
        if (house == null) {
            return no(1);
        }
        if (!within(worth, 0, 99)) {
            return no(2);
        }
        List<Integer> rests = restList(worth);
        return yes(rests.isEmpty() ? -2 : rests.get(0));
    }

    private List<Step> dampNights(int seed, int n) {
        List<Step> steps = new ArrayList<>();
        steps.add(new Step(now, Set.of()));
        long s = seed;
        for (int k = 1; k <= n; k++) {
            Set<Integer> damped = new HashSet<>();
            for (int t = 0; t < house.things.size(); t++) {
                s = (75 * s + 74) % 65_537;
                if (s % 100 < house.damp) {
                    damped.add(t);
                }
            }
            steps.add(step(steps.get(k - 1).state(), damped, null));
        }
        return steps;
    }

    private static boolean dampNumbers(int seed, int n) {
        return within(seed, 0, 65_536) && within(n, 0, 60);
    }

    int damp(int t, int seed, int n) {
        if (!isThing(t)) {
            return no(1);
        }
        return dampNumbers(seed, n) ? yes(ten(dampNights(seed, n).get(n).state().places().get(t))) : no(2);
    }

    int dampSteps(int seed, int n) {
        if (house == null) {
            return no(1);
        }
        return dampNumbers(seed, n) ? yes(dampNights(seed, n).stream().mapToInt(s -> s.went().size()).sum()) : no(2);
    }

    int dampWhen(int t, int p, int seed, int n) {
        if (!isThing(t) || !isPlace(now.places().get(t).ring(), p)) {
            return no(1);
        }
        if (!dampNumbers(seed, n)) {
            return no(2);
        }
        List<Step> steps = dampNights(seed, n);
        for (int k = 1; k <= n; k++) {
            if (steps.get(k).state().places().get(t).place() == p) {
                return yes(k);
            }
        }
        return yes(0);
    }

    private void become(State s) {
        past.addLast(now);
        if (past.size() > 16) {
            past.removeFirst();
        }
        now = s;
    }

    private boolean turn(int t, boolean toHeld) {
        if (!isThing(t)) {
            return no(1) > 0;
        }
        if (now.held().contains(t) == toHeld) {
            return no(5) > 0;
        }
        Set<Integer> held = new HashSet<>(now.held());
        if (toHeld) {
            held.add(t);
        } else {
            held.remove(t);
        }
        become(new State(now.places(), held, now.night()));
        return yes(1) > 0;
    }

    boolean hold(int t) {
        return turn(t, true);
    }

    boolean let(int t) {
        return turn(t, false);
    }

    boolean put(int t, int r, int p) {
        if (!isThing(t) || !isPlace(r, p)) {
            return no(1) > 0;
        }
        if (now.held().contains(t) || thingAt(now, new Place(r, p)) >= 0) {
            return no(5) > 0;
        }
        become(put(now, t, new Place(r, p)));
        return yes(1) > 0;
    }

    int night() {
        if (house == null) {
            return no(1);
        }
        if (now.night() >= 999) {
            return no(3);
        }
        Step step = step(now, Set.of(), null);
        become(step.state());
        return yes(bits(step.went()));
    }

    boolean undo() {
        if (past.isEmpty()) {
            return no(6) > 0;
        }
        now = past.removeLast();
        return yes(1) > 0;
    }

    int image() {
        if (house == null) {
            return no(1);
        }
        if (images.size() == 3) {
            return no(3);
        }
        images.add(now);
        return yes(images.size() - 1);
    }

    boolean back(int image) {
        if (!within(image, 0, images.size() - 1)) {
            return no(1) > 0;
        }
        now = images.get(image);
        past.clear();
        return yes(1) > 0;
    }

    int led(int i) {
        List<Integer> held = house == null ? List.of() : new ArrayList<>(new TreeSet<>(now.held()));
        if (!within(i, 0, held.size() - 1)) {
            throw new NoSuchElementException();
        }
        return held.get(i);
    }

    int size(int what) {
        if (!within(what, 0, 12)) {
            return -1;
        }
        if (what == 12) {
            return tape.size();
        }
        if (house == null) {
            return 0;
        }
        int places = house.sizes.stream().mapToInt(Integer::intValue).sum();
        int[] sizes = {house.cellar, house.damp, house.rings.size(), places, house.things.size(), house.narrow.size(),
            house.doors.size(), house.wants.size(), house.marks.size(), now.night(), past.size(), images.size()};
        return sizes[what];
    }

    int trouble() {
        return trouble;
    }

    Map<String, Integer> sizesNow() {
        Map<String, Integer> sizes = new HashMap<>();
        sizes.put("things", house == null ? 0 : house.things.size());
        sizes.put("rings", house == null ? 0 : house.rings.size());
        return sizes;
    }
}
