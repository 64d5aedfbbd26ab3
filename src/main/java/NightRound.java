import java.util.Arrays;
import java.util.NoSuchElementException;

/** A house in whose rings all things go one place on each night. */
public final class NightRound {
    public static final int NONE = -1;

    private static final int ABSENT = -2;
    private static final int HEIR_REFUSED = -100;

    private static final int NO_SUCH = 1;
    private static final int WRONG_NUMBER = 2;
    private static final int NO_ROOM = 3;
    private static final int FAULTY = 4;
    private static final int NOT_SO = 5;
    private static final int NOTHING = 6;

    private static final int MOST_RINGS = 4;
    private static final int MOST_PLACES = 9;
    /* A place of a ring is one number, its cell: so the rows of all rings lie in one array. */
    private static final int CELLS = MOST_RINGS * MOST_PLACES;
    private static final int MOST_NARROWS = 6;
    private static final int MOST_DOORS = 5;
    private static final int MOST_THINGS = 7;
    private static final int MOST_WANTS = 6;
    private static final int MOST_MARKS = 6;

    private static final int CELLAR_RING = 1;
    private static final int ATTIC_RING = 2;
    private static final int PIANO = 1;
    private static final int BROKEN = 2;
    private static final int PET = 3;
    private static final int PIANO_NIGHTS = 9;
    /* More than the largest size, so that no thing is kept by it. */
    private static final int WIDE = 10;

    private static final int LAST_NIGHT = 999;
    private static final int LAST_WANT = 60;
    private static final int FAR = 200;
    private static final int NEAR = 60;
    private static final int MOST_HOLD_NIGHTS = 30;

    private static final int BOX_NIGHTS = 100;
    private static final int BOX_PLACES = 12;
    private static final int BOX_RULES = 572;
    private static final int MOST_BID = 6;
    private static final int MOST_WORTH = 99;
    private static final int MOST_SEED = 65_536;

    private final Reader reader;
    private final Diary diary;
    private final Walk walk;
    private final Holder holder;
    private final Box box;
    private House house;
    private int trouble;
    private int fault;
    private int faultPlace;

    public NightRound() {
        reader = new Reader();
        diary = new Diary();
        walk = new Walk();
        holder = new Holder();
        box = new Box();
        house = new House();
    }

    // ---- the house

    public int feed(int a, int b, int c, int d, int e) {
        if (!reader.hasRoom(20)) {
            return NONE;
        }
        reader.append(a);
        reader.append(b);
        reader.append(c);
        reader.append(d);
        reader.append(e);
        return reader.count();
    }

    public int house(int n) {
        if (n < 0 || n > reader.count()) {
            return refuse(WRONG_NUMBER);
        }
        boolean good = reader.read(n);
        fault = reader.faultFound();
        faultPlace = reader.faultStart();
        if (!good) {
            return refuse(FAULTY);
        }
        house = reader.exchange(house);
        diary.begin(house);
        box.learn(house);
        return answer(house.rings);
    }

    public int fault() {
        return fault;
    }

    public int where() {
        return trouble == FAULTY ? faultPlace : NONE;
    }

    // ---- now

    public int ring(int r, int what) {
        if (!house.hasRing(r) || what < 0 || what > 3) {
            return refuse(NO_SUCH);
        }
        int inIt = diary.thingsIn(r, house.things);
        switch (what) {
            case 0:
                return answer(house.sortOf(r));
            case 1:
                return answer(house.placesOf(r));
            case 2:
                return answer(inIt);
            default:
                return answer(house.placesOf(r) - Integer.bitCount(inIt));
        }
    }

    public int thing(int t, int what) {
        if (!house.hasThing(t) || what < 0 || what > 4) {
            return refuse(NO_SUCH);
        }
        switch (what) {
            case 0:
                return answer(house.kindOf(t));
            case 1:
                return answer(ringOfCell(diary.cellOf(t)));
            case 2:
                return answer(placeOfCell(diary.cellOf(t)));
            case 3:
                return answer(house.sizeOf(t));
            default:
                return answer(diary.isHeld(t) ? 1 : 0);
        }
    }

    public int at(int r, int place) {
        if (!house.hasPlace(r, place)) {
            return refuse(NO_SUCH);
        }
        int t = diary.thingAt(cellAt(r, place), house.things);
        return answer(t < 0 ? ABSENT : t);
    }

    public int narrow(int r, int place) {
        if (!house.hasPlace(r, place)) {
            return refuse(NO_SUCH);
        }
        int width = house.widthOf(cellAt(r, place));
        return answer(width == WIDE ? ABSENT : width);
    }

    public int ahead(int t) {
        if (!house.hasThing(t)) {
            return refuse(NO_SUCH);
        }
        return answer(placeOfCell(house.nextOf(diary.cellOf(t))));
    }

    public int goes() {
        if (!house.stands()) {
            return refuse(NO_SUCH);
        }
        walk.start(house, diary, 0);
        walk.decide(0);
        return answer(walk.went());
    }

    public int blocked() {
        if (!house.stands()) {
            return refuse(NO_SUCH);
        }
        walk.start(house, diary, 0);
        walk.decide(0);
        return answer(walk.stuck());
    }

    public int meeting() {
        if (!house.stands()) {
            return refuse(NO_SUCH);
        }
        walk.start(house, diary, 0);
        return answer(walk.firstPair());
    }

    // ---- nights

    public int behind(int t, int nights) {
        if (!house.hasThing(t)) {
            return refuse(NO_SUCH);
        }
        if (nights < 0 || nights > FAR) {
            return refuse(WRONG_NUMBER);
        }
        walk.start(house, diary, 0);
        walk.goOn(nights);
        return answer(tenfold(walk.cellOf(t)));
    }

    public int when(int t, int r, int place) {
        if (!house.hasThing(t) || !house.hasPlace(r, place)) {
            return refuse(NO_SUCH);
        }
        int cell = cellAt(r, place);
        walk.start(house, diary, 0);
        for (int k = 0; k <= FAR; k++) {
            if (walk.cellOf(t) == cell) {
                return answer(k);
            }
            walk.pass(0);
        }
        return answer(ABSENT);
    }

    public int meets(int t, int other) {
        if (!areTwo(t, other)) {
            return refuse(NO_SUCH);
        }
        walk.start(house, diary, 0);
        for (int k = 0; k <= FAR; k++) {
            if (walk.atDoor(t, other)) {
                return answer(k);
            }
            walk.pass(0);
        }
        return answer(ABSENT);
    }

    public int still() {
        if (!house.stands()) {
            return refuse(NO_SUCH);
        }
        walk.start(house, diary, 0);
        for (int k = 0; k <= FAR; k++) {
            walk.pass(0);
            if (walk.went() == 0) {
                return answer(k);
            }
        }
        return answer(ABSENT);
    }

    public int period() {
        if (!house.stands()) {
            return refuse(NO_SUCH);
        }
        walk.start(house, diary, 0);
        for (int k = 1; k <= FAR; k++) {
            walk.pass(0);
            if (walk.isAsIn(diary)) {
                return answer(k);
            }
        }
        return answer(ABSENT);
    }

    public int steps(int t, int nights) {
        if (!house.hasThing(t)) {
            return refuse(NO_SUCH);
        }
        if (nights < 0 || nights > FAR) {
            return refuse(WRONG_NUMBER);
        }
        int count = 0;
        walk.start(house, diary, 0);
        for (int k = 1; k <= nights; k++) {
            walk.pass(0);
            count += walk.went() >> t & 1;
        }
        return answer(count);
    }

    public int meetings(int t, int other, int nights) {
        if (!areTwo(t, other)) {
            return refuse(NO_SUCH);
        }
        if (nights < 0 || nights > FAR) {
            return refuse(WRONG_NUMBER);
        }
        int count = 0;
        walk.start(house, diary, 0);
        for (int k = 1; k <= nights; k++) {
            walk.pass(0);
            count += walk.atDoor(t, other) ? 1 : 0;
        }
        return answer(count);
    }

    public int mostMeet() {
        if (!house.stands()) {
            return refuse(NO_SUCH);
        }
        walk.start(house, diary, 0);
        return answer(walk.mostPair(NEAR));
    }

    public int toWiden() {
        if (!house.stands()) {
            return refuse(NO_SUCH);
        }
        walk.start(house, diary, 0);
        int most = walk.goOn(NEAR);
        int chosen = ABSENT;
        for (int cell = 0; cell < CELLS; cell++) {
            if (house.widthOf(cell) != WIDE) {
                walk.start(house, diary, 0);
                walk.widen(cell);
                int moves = walk.goOn(NEAR);
                if (moves > most) {
                    most = moves;
                    chosen = tenfold(cell);
                }
            }
        }
        return answer(chosen);
    }

    public int worstHeld(int nights) {
        if (!house.stands()) {
            return refuse(NO_SUCH);
        }
        if (nights < 0 || nights > NEAR) {
            return refuse(WRONG_NUMBER);
        }
        int fewest = 0;
        int chosen = ABSENT;
        for (int t = 0; t < house.things; t++) {
            walk.start(house, diary, 1 << t);
            int moves = walk.goOn(nights);
            if (chosen == ABSENT || moves < fewest) {
                fewest = moves;
                chosen = t;
            }
        }
        return answer(chosen);
    }

    // ---- held, put

    public int holds(int t, int r, int place, int nights) {
        if (!house.hasThing(t) || !house.hasPlace(r, place)) {
            return refuse(NO_SUCH);
        }
        if (nights < 0 || nights > MOST_HOLD_NIGHTS) {
            return refuse(WRONG_NUMBER);
        }
        if (ringOfCell(diary.cellOf(t)) != r) {
            return answer(ABSENT);
        }
        return answer(holder.fewestForPlace(house, diary, t, cellAt(r, place), nights));
    }

    public int putFor(int t, int place, int nights) {
        if (!house.hasThing(t)) {
            return refuse(NO_SUCH);
        }
        int r = ringOfCell(diary.cellOf(t));
        if (!house.hasPlace(r, place)) {
            return refuse(NO_SUCH);
        }
        if (nights < 0 || nights > NEAR) {
            return refuse(WRONG_NUMBER);
        }
        for (int p = 0; p < house.placesOf(r); p++) {
            int from = cellAt(r, p);
            int there = diary.thingAt(from, house.things);
            if (there < 0 || there == t) {
                walk.start(house, diary, 0);
                walk.shift(t, from);
                walk.goOn(nights);
                if (walk.cellOf(t) == cellAt(r, place)) {
                    return answer(p);
                }
            }
        }
        return answer(ABSENT);
    }

    public int holdsToMeet(int t, int other, int nights) {
        if (!areTwo(t, other)) {
            return refuse(NO_SUCH);
        }
        if (nights < 0 || nights > MOST_HOLD_NIGHTS) {
            return refuse(WRONG_NUMBER);
        }
        return answer(holder.fewestToMeet(house, diary, t, other, nights));
    }

    // ---- wants

    public int pays(int n) {
        int why = whyNoWants(n);
        if (why != 0) {
            return refuse(why);
        }
        return answer(house.wants.worthOf(holder.paidWithin(house, diary, 0, n)));
    }

    public int best(int n) {
        int why = whyNoWants(n);
        if (why != 0) {
            return refuse(why);
        }
        return answer(holder.bestFor(house, diary, n));
    }

    public int bestPays(int n) {
        int why = whyNoWants(n);
        if (why != 0) {
            return refuse(why);
        }
        int more = holder.bestFor(house, diary, n);
        return answer(house.wants.worthOf(holder.paidWithin(house, diary, more, n)));
    }

    public int kept() {
        if (!house.stands()) {
            return refuse(NO_SUCH);
        }
        return answer(holder.paidWithin(house, diary, 0, NEAR));
    }

    // ---- the box

    public int rules() {
        if (!house.stands()) {
            return refuse(NO_SUCH);
        }
        return answer(box.count());
    }

    public int ruleAt(int i) {
        if (!house.stands() || i < 0 || i >= box.count()) {
            return refuse(NO_SUCH);
        }
        return answer(box.ruleNumber(i));
    }

    public int there(int night, int place) {
        if (!house.stands()) {
            return refuse(NO_SUCH);
        }
        if (night < 0 || night >= BOX_NIGHTS || place < 0 || place >= BOX_PLACES) {
            return refuse(WRONG_NUMBER);
        }
        return answer(box.countAt(night, place));
    }

    public int surely(int night) {
        if (!house.stands()) {
            return refuse(NO_SUCH);
        }
        if (night < 0 || night >= BOX_NIGHTS) {
            return refuse(WRONG_NUMBER);
        }
        return answer(box.firstSure(night));
    }

    public int look() {
        if (!house.stands()) {
            return refuse(NO_SUCH);
        }
        return answer(box.bestLook());
    }

    public int lookLeaves() {
        if (!house.stands()) {
            return refuse(NO_SUCH);
        }
        return answer(box.leftByLook());
    }

    // ---- heirs

    public int heir(int worth, int one, int other, boolean ofOther) {
        boolean bids = one >= 0 && one <= MOST_BID && other >= 0 && other <= MOST_BID;
        int why = whyNoHeirs(worth);
        if (why == 0 && !bids) {
            why = WRONG_NUMBER;
        }
        trouble = why;
        if (why != 0) {
            return HEIR_REFUSED;
        }
        return ofOther ? Heirs.gain(worth, other, one) : Heirs.gain(worth, one, other);
    }

    public int rests(int worth) {
        int why = whyNoHeirs(worth);
        if (why != 0) {
            return refuse(why);
        }
        int count = 0;
        for (int one = 0; one <= MOST_BID; one++) {
            for (int other = 0; other <= MOST_BID; other++) {
                count += Heirs.areAtRest(worth, one, other) ? 1 : 0;
            }
        }
        return answer(count);
    }

    public int rest(int worth) {
        int why = whyNoHeirs(worth);
        if (why != 0) {
            return refuse(why);
        }
        for (int one = 0; one <= MOST_BID; one++) {
            for (int other = 0; other <= MOST_BID; other++) {
                if (Heirs.areAtRest(worth, one, other)) {
                    return answer(10 * one + other);
                }
            }
        }
        return answer(ABSENT);
    }

    // ---- damp nights

    public int damp(int t, int seed, int n) {
        if (!house.hasThing(t)) {
            return refuse(NO_SUCH);
        }
        if (!areDampNumbers(seed, n)) {
            return refuse(WRONG_NUMBER);
        }
        walk.start(house, diary, 0);
        walk.sow(seed);
        for (int k = 1; k <= n; k++) {
            walk.passDamp();
        }
        return answer(tenfold(walk.cellOf(t)));
    }

    public int dampSteps(int seed, int n) {
        if (!house.stands()) {
            return refuse(NO_SUCH);
        }
        if (!areDampNumbers(seed, n)) {
            return refuse(WRONG_NUMBER);
        }
        int moves = 0;
        walk.start(house, diary, 0);
        walk.sow(seed);
        for (int k = 1; k <= n; k++) {
            walk.passDamp();
            moves += Integer.bitCount(walk.went());
        }
        return answer(moves);
    }

    public int dampWhen(int t, int place, int seed, int n) {
        if (!house.hasThing(t)) {
            return refuse(NO_SUCH);
        }
        int r = ringOfCell(diary.cellOf(t));
        if (!house.hasPlace(r, place)) {
            return refuse(NO_SUCH);
        }
        if (!areDampNumbers(seed, n)) {
            return refuse(WRONG_NUMBER);
        }
        walk.start(house, diary, 0);
        walk.sow(seed);
        for (int k = 1; k <= n; k++) {
            walk.passDamp();
            if (walk.cellOf(t) == cellAt(r, place)) {
                return answer(k);
            }
        }
        return answer(0);
    }

    // ---- acts

    public boolean hold(int t) {
        if (!house.hasThing(t)) {
            return isDone(NO_SUCH);
        }
        if (diary.isHeld(t)) {
            return isDone(NOT_SO);
        }
        diary.keep();
        diary.turnHeld(t);
        return isDone(0);
    }

    public boolean let(int t) {
        if (!house.hasThing(t)) {
            return isDone(NO_SUCH);
        }
        if (!diary.isHeld(t)) {
            return isDone(NOT_SO);
        }
        diary.keep();
        diary.turnHeld(t);
        return isDone(0);
    }

    public boolean put(int t, int r, int place) {
        if (!house.hasThing(t) || !house.hasPlace(r, place)) {
            return isDone(NO_SUCH);
        }
        int cell = cellAt(r, place);
        if (diary.isHeld(t) || diary.thingAt(cell, house.things) >= 0) {
            return isDone(NOT_SO);
        }
        diary.keep();
        diary.move(t, cell);
        return isDone(0);
    }

    public int night() {
        if (!house.stands()) {
            return refuse(NO_SUCH);
        }
        if (diary.nightNow() >= LAST_NIGHT) {
            return refuse(NO_ROOM);
        }
        diary.keep();
        walk.start(house, diary, 0);
        walk.pass(0);
        for (int t = 0; t < house.things; t++) {
            diary.move(t, walk.cellOf(t));
        }
        diary.nextNight();
        return answer(walk.went());
    }

    public boolean undo() {
        return isDone(diary.takeBack() ? 0 : NOTHING);
    }

    public int image() {
        if (!house.stands()) {
            return refuse(NO_SUCH);
        }
        int number = diary.takeImage();
        return number < 0 ? refuse(NO_ROOM) : answer(number);
    }

    public boolean back(int image) {
        return isDone(diary.returnTo(image) ? 0 : NO_SUCH);
    }

    // ---- what is told

    public int led(int i) throws NoSuchElementException {
        int left = i;
        for (int t = 0; t < house.things && left >= 0; t++) {
            if (diary.isHeld(t)) {
                if (left == 0) {
                    return t;
                }
                left--;
            }
        }
        throw new NoSuchElementException("no such held thing");
    }

    public int size(int what) {
        switch (what) {
            case 0:
                return house.cellar;
            case 1:
                return house.damp;
            case 2:
                return house.rings;
            case 3:
                return house.placesOfAll();
            case 4:
                return house.things;
            case 5:
                return house.narrows;
            case 6:
                return house.doors;
            case 7:
                return house.wants.count();
            case 8:
                return house.marks;
            case 9:
                return diary.nightNow();
            case 10:
                return diary.countKept();
            case 11:
                return diary.countImages();
            case 12:
                return reader.count();
            default:
                return NONE;
        }
    }

    public int trouble() {
        return trouble;
    }

    private int answer(int value) {
        trouble = 0;
        return value;
    }

    private int refuse(int why) {
        trouble = why;
        return NONE;
    }

    private boolean isDone(int why) {
        trouble = why;
        return why == 0;
    }

    private boolean areTwo(int t, int other) {
        return house.hasThing(t) && house.hasThing(other) && t != other;
    }

    private int whyNoWants(int n) {
        if (!house.stands()) {
            return NO_SUCH;
        }
        return n < 0 || n > NEAR ? WRONG_NUMBER : 0;
    }

    private int whyNoHeirs(int worth) {
        if (!house.stands()) {
            return NO_SUCH;
        }
        return worth < 0 || worth > MOST_WORTH ? WRONG_NUMBER : 0;
    }

    private static boolean areDampNumbers(int seed, int n) {
        return seed >= 0 && seed <= MOST_SEED && n >= 0 && n <= NEAR;
    }

    private static int cellAt(int r, int place) {
        return r * MOST_PLACES + place;
    }

    private static int ringOfCell(int cell) {
        return cell / MOST_PLACES;
    }

    private static int placeOfCell(int cell) {
        return cell % MOST_PLACES;
    }

    private static int tenfold(int cell) {
        return 10 * ringOfCell(cell) + placeOfCell(cell);
    }

    /** What a text tells: nothing in it changes until the next text. */
    private static final class House {
        int cellar;
        int damp;
        int rings;
        int narrows;
        int doors;
        int things;
        int marks;
        final Wants wants = new Wants();
        private final int[] sorts = new int[MOST_RINGS];
        private final int[] places = new int[MOST_RINGS];
        private final int[] next = new int[CELLS];
        private final int[] width = new int[CELLS];
        private final int[] doorOne = new int[MOST_DOORS];
        private final int[] doorTwo = new int[MOST_DOORS];
        private final int[] kinds = new int[MOST_THINGS];
        private final int[] sizes = new int[MOST_THINGS];
        private final int[] firstCells = new int[MOST_THINGS];
        private final int[] markNights = new int[MOST_MARKS];
        private final int[] markPlaces = new int[MOST_MARKS];
        private final boolean[] markFound = new boolean[MOST_MARKS];

        House() {
            Arrays.fill(width, WIDE);
        }

        void clear() {
            cellar = 0;
            damp = 0;
            rings = 0;
            narrows = 0;
            doors = 0;
            things = 0;
            marks = 0;
            wants.clear();
            Arrays.fill(next, 0);
            Arrays.fill(width, WIDE);
        }

        boolean stands() {
            return rings > 0;
        }

        boolean hasRing(int r) {
            return r >= 0 && r < rings && r < MOST_RINGS;
        }

        boolean hasPlace(int r, int place) {
            return hasRing(r) && place >= 0 && place < places[r];
        }

        boolean hasThing(int t) {
            return t >= 0 && t < things && t < MOST_THINGS;
        }

        int sortOf(int r) {
            return hasRing(r) ? sorts[r] : 0;
        }

        int placesOf(int r) {
            return hasRing(r) ? places[r] : 0;
        }

        int placesOfAll() {
            int sum = 0;
            for (int r = 0; r < rings; r++) {
                sum += placesOf(r);
            }
            return sum;
        }

        int nextOf(int cell) {
            return cell >= 0 && cell < CELLS ? next[cell] : 0;
        }

        int widthOf(int cell) {
            return cell >= 0 && cell < CELLS ? width[cell] : WIDE;
        }

        boolean isTooLarge(int t, int cell) {
            if (t < 0 || t >= MOST_THINGS || cell < 0 || cell >= CELLS) {
                return false;
            }
            return sizes[t] > width[cell] && kinds[t] != PET;
        }

        int kindOf(int t) {
            return t >= 0 && t < MOST_THINGS ? kinds[t] : 0;
        }

        int sizeOf(int t) {
            return t >= 0 && t < MOST_THINGS ? sizes[t] : 0;
        }

        int firstCellOf(int t) {
            return t >= 0 && t < MOST_THINGS ? firstCells[t] : 0;
        }

        int doorSide(int d, boolean second) {
            if (d < 0 || d >= doors || d >= MOST_DOORS) {
                return 0;
            }
            return second ? doorTwo[d] : doorOne[d];
        }

        boolean hasDoor(int cell, int other) {
            for (int d = 0; d < doors && d < MOST_DOORS; d++) {
                boolean same = doorOne[d] == cell && doorTwo[d] == other;
                boolean turned = doorOne[d] == other && doorTwo[d] == cell;
                if (same || turned) {
                    return true;
                }
            }
            return false;
        }

        boolean isTaken(int cell) {
            for (int t = 0; t < things && t < MOST_THINGS; t++) {
                if (firstCells[t] == cell) {
                    return true;
                }
            }
            return false;
        }

        boolean hasMark(int night) {
            for (int m = 0; m < marks && m < MOST_MARKS; m++) {
                if (markNights[m] == night) {
                    return true;
                }
            }
            return false;
        }

        boolean allowsRule(int ringPlaces, int step, int first) {
            if (ringPlaces <= 0) {
                return false;
            }
            for (int m = 0; m < marks && m < MOST_MARKS; m++) {
                int place = (first + step * markNights[m]) % ringPlaces;
                if ((place == markPlaces[m]) != markFound[m]) {
                    return false;
                }
            }
            return true;
        }

        void addRing(int sort, int count) {
            if (rings < 0 || rings >= MOST_RINGS || count < 1 || count > MOST_PLACES) {
                return;
            }
            for (int p = 0; p < count; p++) {
                int on = p + 1 < count ? p + 1 : 0;
                int before = p > 0 ? p - 1 : count - 1;
                next[cellAt(rings, p)] = cellAt(rings, sort == ATTIC_RING ? before : on);
            }
            sorts[rings] = sort;
            places[rings] = count;
            rings++;
        }

        void addNarrow(int cell, int by) {
            if (cell < 0 || cell >= CELLS || narrows >= MOST_NARROWS) {
                return;
            }
            width[cell] = by;
            narrows++;
        }

        void addDoor(int one, int two) {
            if (doors < 0 || doors >= MOST_DOORS) {
                return;
            }
            doorOne[doors] = one;
            doorTwo[doors] = two;
            doors++;
        }

        void addThing(int kind, int cell, int size) {
            if (things < 0 || things >= MOST_THINGS) {
                return;
            }
            kinds[things] = kind;
            firstCells[things] = cell;
            sizes[things] = size;
            things++;
        }

        void addMark(int night, int place, boolean found) {
            if (marks < 0 || marks >= MOST_MARKS) {
                return;
            }
            markNights[marks] = night;
            markPlaces[marks] = place;
            markFound[marks] = found;
            marks++;
        }
    }

    /** The wants of a house. */
    private static final class Wants {
        private int size;
        private final int[] things = new int[MOST_WANTS];
        private final int[] cells = new int[MOST_WANTS];
        private final int[] nights = new int[MOST_WANTS];
        private final int[] worths = new int[MOST_WANTS];

        void clear() {
            size = 0;
        }

        int count() {
            return size;
        }

        void add(int thing, int cell, int night, int worth) {
            if (size < 0 || size >= MOST_WANTS) {
                return;
            }
            things[size] = thing;
            cells[size] = cell;
            nights[size] = night;
            worths[size] = worth;
            size++;
        }

        int worthOf(int bits) {
            int sum = 0;
            for (int w = 0; w < size && w < MOST_WANTS; w++) {
                if ((bits >> w & 1) != 0) {
                    sum += worths[w];
                }
            }
            return sum;
        }

        /** Those that pay where the walk stands now. */
        int paidBy(Walk walk) {
            int bits = 0;
            for (int w = 0; w < size && w < MOST_WANTS; w++) {
                if (nights[w] == walk.nightNow() && walk.cellOf(things[w]) == cells[w]) {
                    bits |= 1 << w;
                }
            }
            return bits;
        }

        /** Those that could pay if things might go at will, since none leaves its ring by night. */
        int withinReach(Diary diary, int n) {
            int bits = 0;
            for (int w = 0; w < size && w < MOST_WANTS; w++) {
                boolean comes = nights[w] > diary.nightNow() && nights[w] <= diary.nightNow() + n;
                if (comes && ringOfCell(diary.cellOf(things[w])) == ringOfCell(cells[w])) {
                    bits |= 1 << w;
                }
            }
            return bits;
        }

        int ofRing(int bits, int r) {
            int inIt = 0;
            for (int w = 0; w < size && w < MOST_WANTS; w++) {
                if ((bits >> w & 1) != 0 && ringOfCell(cells[w]) == r) {
                    inIt |= 1 << w;
                }
            }
            return inIt;
        }

        /** The night behind which none of these can pay any more; 0 if there are none. */
        int lastNightOf(int bits) {
            int last = 0;
            for (int w = 0; w < size && w < MOST_WANTS; w++) {
                if ((bits >> w & 1) != 0) {
                    last = Math.max(last, nights[w]);
                }
            }
            return last;
        }
    }

    /** THE TAPE, and how a HOUSE is read from it; what a faulty text leaves is only in the draft. */
    private static final class Reader {
        private static final int TAPE_BYTES = 900;

        private static final int END = 0;
        private static final int WORD = 1;
        private static final int WHOLE = 2;
        private static final int PART = 3;
        private static final int UNKNOWN = 4;

        private static final int FORM = 1;
        private static final int UNTOLD = 2;
        private static final int TWICE = 3;
        private static final int BOUNDS = 4;
        private static final int MANY = 5;
        private static final int LACKS = 6;

        private static final int MOST_LETTERS = 8;
        private static final int MOST_DIGITS = 3;

        private final byte[] tape = new byte[TAPE_BYTES];
        private int used;
        private House draft = new House();
        private final long[] ringNames = new long[MOST_RINGS];
        private final long[] thingNames = new long[MOST_THINGS];
        private boolean isHoused;
        private int end;
        private int token;
        private int start;
        private int behind;
        private int value;
        private long word;
        private int found;

        boolean hasRoom(int more) {
            return used + more <= TAPE_BYTES;
        }

        int count() {
            return used;
        }

        void append(int number) {
            for (int shift = 24; shift >= 0; shift -= 8) {
                if (used >= 0 && used < TAPE_BYTES) {
                    tape[used] = (byte) (number >> shift);
                    used++;
                }
            }
        }

        int faultFound() {
            return found;
        }

        int faultStart() {
            return start;
        }

        House exchange(House old) {
            House full = draft;
            draft = old;
            return full;
        }

        boolean read(int n) {
            end = n;
            behind = 0;
            found = 0;
            isHoused = false;
            draft.clear();
            used = 0;
            step();
            boolean good = readLine();
            for (int turn = 0; turn < TAPE_BYTES && good && token == PART; turn++) {
                step();
                good = readLine();
            }
            if (!good) {
                return false;
            }
            if (token != END) {
                return fails(FORM);
            }
            return draft.stands() || fails(LACKS);
        }

        private boolean fails(int why) {
            found = why;
            return false;
        }

        private int byteAt(int p) {
            return p >= 0 && p < end && p < TAPE_BYTES ? tape[p] & 255 : NONE;
        }

        private void step() {
            int p = behind;
            while (p < end && byteAt(p) == ' ') {
                p++;
            }
            start = p;
            behind = p;
            int b = byteAt(p);
            if (b < 0) {
                token = END;
            } else if (b >= 'a' && b <= 'z') {
                takeLetters();
            } else if (b >= '0' && b <= '9') {
                takeDigits();
            } else {
                token = b == ';' ? PART : UNKNOWN;
                behind = p + 1;
            }
        }

        /* A word as a number in base 32 is another for each word of up to eight letters. */
        private void takeLetters() {
            word = 0;
            for (int p = start; p >= 0 && p < end && p < TAPE_BYTES; p++) {
                if (tape[p] < 'a' || tape[p] > 'z') {
                    break;
                }
                word = word * 32 + (tape[p] - 'a' + 1);
                behind = p + 1;
            }
            token = behind - start <= MOST_LETTERS ? WORD : UNKNOWN;
        }

        private void takeDigits() {
            value = 0;
            for (int p = start; p >= 0 && p < end && p < TAPE_BYTES; p++) {
                if (tape[p] < '0' || tape[p] > '9') {
                    break;
                }
                value = value * 10 + (tape[p] - '0');
                behind = p + 1;
            }
            token = behind - start <= MOST_DIGITS ? WHOLE : UNKNOWN;
        }

        private boolean says(String text) {
            if (token != WORD || behind - start != text.length()) {
                return false;
            }
            for (int i = 0; i < text.length(); i++) {
                int p = start + i;
                if (p < 0 || p >= TAPE_BYTES || tape[p] != text.charAt(i)) {
                    return false;
                }
            }
            return true;
        }

        private boolean passes(String text) {
            if (!says(text)) {
                return fails(FORM);
            }
            step();
            return true;
        }

        private boolean isName() {
            boolean first = says("house") || says("ring") || says("narrow") || says("door");
            boolean second = says("thing") || says("want") || says("found") || says("lost");
            return token == WORD && !first && !second;
        }

        private static int placeOfName(long name, long[] names, int count) {
            for (int i = 0; i < count && i < names.length; i++) {
                if (names[i] == name) {
                    return i;
                }
            }
            return NONE;
        }

        /* The name's number, which is above 0; or NONE behind a fault. */
        private long takeNewName() {
            if (!isName()) {
                fails(FORM);
                return NONE;
            }
            boolean ofRing = placeOfName(word, ringNames, draft.rings) >= 0;
            if (ofRing || placeOfName(word, thingNames, draft.things) >= 0) {
                fails(TWICE);
                return NONE;
            }
            long name = word;
            step();
            return name;
        }

        private int takeToldName(long[] names, int count) {
            if (!isName()) {
                fails(FORM);
                return NONE;
            }
            int i = placeOfName(word, names, count);
            if (i < 0) {
                fails(UNTOLD);
                return NONE;
            }
            step();
            return i;
        }

        /* The token stays, since what else may be wrong with it is told at its place. */
        private boolean isWhole(int least, int most) {
            if (token != WHOLE) {
                return fails(FORM);
            }
            return value >= least && value <= most || fails(BOUNDS);
        }

        private int takeWhole(int least, int most) {
            if (!isWhole(least, most)) {
                return NONE;
            }
            int taken = value;
            step();
            return taken;
        }

        private int takeChoice(int choice) {
            if (choice < 0) {
                fails(FORM);
                return NONE;
            }
            step();
            return choice;
        }

        private int sortSaid() {
            if (says("plain")) {
                return 0;
            }
            if (says("cellar")) {
                return CELLAR_RING;
            }
            return says("attic") ? ATTIC_RING : NONE;
        }

        private int kindSaid() {
            if (says("plain")) {
                return 0;
            }
            if (says("piano")) {
                return PIANO;
            }
            if (says("broken")) {
                return BROKEN;
            }
            return says("pet") ? PET : NONE;
        }

        private boolean readLine() {
            if (says("house")) {
                return readHouse();
            }
            if (token != WORD || isName()) {
                return fails(FORM);
            }
            if (!isHoused) {
                return fails(LACKS);
            }
            if (isMany()) {
                return fails(MANY);
            }
            if (says("ring")) {
                return readRing();
            }
            if (says("narrow")) {
                return readNarrow();
            }
            if (says("door")) {
                return readDoor();
            }
            if (says("thing")) {
                return readThing();
            }
            return says("want") ? readWant() : readMark();
        }

        private boolean isMany() {
            if (says("ring")) {
                return draft.rings >= MOST_RINGS;
            }
            if (says("narrow")) {
                return draft.narrows >= MOST_NARROWS;
            }
            if (says("door")) {
                return draft.doors >= MOST_DOORS;
            }
            if (says("thing")) {
                return draft.things >= MOST_THINGS;
            }
            return says("want") ? draft.wants.count() >= MOST_WANTS : draft.marks >= MOST_MARKS;
        }

        private boolean readHouse() {
            if (isHoused) {
                return fails(TWICE);
            }
            step();
            if (!passes("cellar")) {
                return false;
            }
            int nights = takeWhole(1, 5);
            if (nights < 0 || !passes("damp")) {
                return false;
            }
            int hundredths = takeWhole(0, 100);
            if (hundredths < 0) {
                return false;
            }
            draft.cellar = nights;
            draft.damp = hundredths;
            isHoused = true;
            return true;
        }

        private boolean readRing() {
            step();
            long name = takeNewName();
            if (name < 0) {
                return false;
            }
            int sort = takeChoice(sortSaid());
            if (sort < 0 || !passes("places")) {
                return false;
            }
            int places = takeWhole(2, MOST_PLACES);
            if (places < 0 || draft.rings < 0 || draft.rings >= MOST_RINGS) {
                return false;
            }
            ringNames[draft.rings] = name;
            draft.addRing(sort, places);
            return true;
        }

        private boolean readNarrow() {
            step();
            int r = takeToldName(ringNames, draft.rings);
            if (r < 0 || !isWhole(0, draft.placesOf(r) - 1)) {
                return false;
            }
            int cell = cellAt(r, value);
            if (draft.widthOf(cell) != WIDE) {
                return fails(TWICE);
            }
            step();
            if (!passes("by")) {
                return false;
            }
            int by = takeWhole(0, 9);
            if (by < 0) {
                return false;
            }
            draft.addNarrow(cell, by);
            return true;
        }

        private boolean readDoor() {
            step();
            int r = takeToldName(ringNames, draft.rings);
            if (r < 0) {
                return false;
            }
            int place = takeWhole(0, draft.placesOf(r) - 1);
            if (place < 0) {
                return false;
            }
            int one = cellAt(r, place);
            r = takeToldName(ringNames, draft.rings);
            if (r < 0 || !isWhole(0, draft.placesOf(r) - 1)) {
                return false;
            }
            int two = cellAt(r, value);
            if (one == two || draft.hasDoor(one, two)) {
                return fails(TWICE);
            }
            step();
            draft.addDoor(one, two);
            return true;
        }

        private boolean readThing() {
            step();
            long name = takeNewName();
            if (name < 0) {
                return false;
            }
            int kind = takeChoice(kindSaid());
            if (kind < 0 || !passes("in")) {
                return false;
            }
            int r = takeToldName(ringNames, draft.rings);
            if (r < 0 || !passes("at") || !isWhole(0, draft.placesOf(r) - 1)) {
                return false;
            }
            int cell = cellAt(r, value);
            if (draft.isTaken(cell)) {
                return fails(TWICE);
            }
            step();
            if (!passes("size")) {
                return false;
            }
            int size = takeWhole(1, 9);
            if (size < 0 || draft.things < 0 || draft.things >= MOST_THINGS) {
                return false;
            }
            thingNames[draft.things] = name;
            draft.addThing(kind, cell, size);
            return true;
        }

        private boolean readWant() {
            step();
            int t = takeToldName(thingNames, draft.things);
            if (t < 0 || !passes("in")) {
                return false;
            }
            int r = takeToldName(ringNames, draft.rings);
            if (r < 0 || !passes("at")) {
                return false;
            }
            int place = takeWhole(0, draft.placesOf(r) - 1);
            if (place < 0 || !passes("night")) {
                return false;
            }
            int night = takeWhole(1, LAST_WANT);
            if (night < 0 || !passes("pays")) {
                return false;
            }
            int worth = takeWhole(1, 99);
            if (worth < 0) {
                return false;
            }
            draft.wants.add(t, cellAt(r, place), night, worth);
            return true;
        }

        private boolean readMark() {
            boolean isFound = says("found");
            step();
            if (!isWhole(0, BOX_NIGHTS - 1)) {
                return false;
            }
            int night = value;
            if (draft.hasMark(night)) {
                return fails(TWICE);
            }
            step();
            if (!passes("at")) {
                return false;
            }
            int place = takeWhole(0, BOX_PLACES - 1);
            if (place < 0) {
                return false;
            }
            draft.addMark(night, place, isFound);
            return true;
        }
    }

    /** What is so NOW, what can be undone, and the IMAGES: each a row of the things' cells, the held ones, the night. */
    private static final class Diary {
        private static final int HELD = MOST_THINGS;
        private static final int NIGHT = MOST_THINGS + 1;
        private static final int ROW = MOST_THINGS + 2;
        private static final int MOST_KEPT = 16;
        private static final int MOST_IMAGES = 3;

        private final int[] now = new int[ROW];
        private final int[][] past = new int[MOST_KEPT][ROW];
        private final int[][] images = new int[MOST_IMAGES][ROW];
        private int kept;
        private int nextKept;
        private int imageCount;

        void begin(House house) {
            Arrays.fill(now, 0);
            for (int t = 0; t < MOST_THINGS; t++) {
                now[t] = house.firstCellOf(t);
            }
            kept = 0;
            imageCount = 0;
        }

        int cellOf(int t) {
            return t >= 0 && t < MOST_THINGS ? now[t] : 0;
        }

        int heldBits() {
            return now[HELD];
        }

        boolean isHeld(int t) {
            return (now[HELD] >> t & 1) != 0;
        }

        int nightNow() {
            return now[NIGHT];
        }

        int countKept() {
            return kept;
        }

        int countImages() {
            return imageCount;
        }

        int thingAt(int cell, int things) {
            for (int t = 0; t < things && t < MOST_THINGS; t++) {
                if (now[t] == cell) {
                    return t;
                }
            }
            return NONE;
        }

        int thingsIn(int r, int things) {
            int bits = 0;
            for (int t = 0; t < things && t < MOST_THINGS; t++) {
                if (ringOfCell(now[t]) == r) {
                    bits |= 1 << t;
                }
            }
            return bits;
        }

        void turnHeld(int t) {
            now[HELD] ^= 1 << t;
        }

        void move(int t, int cell) {
            if (t >= 0 && t < MOST_THINGS) {
                now[t] = cell;
            }
        }

        void nextNight() {
            now[NIGHT]++;
        }

        /* The rows go round, so that the oldest one is written over when all are in use. */
        void keep() {
            if (nextKept < 0 || nextKept >= MOST_KEPT) {
                nextKept = 0;
            }
            System.arraycopy(now, 0, past[nextKept], 0, ROW);
            nextKept = nextKept + 1 < MOST_KEPT ? nextKept + 1 : 0;
            kept = kept < MOST_KEPT ? kept + 1 : MOST_KEPT;
        }

        boolean takeBack() {
            if (kept <= 0) {
                return false;
            }
            nextKept = nextKept > 0 && nextKept < MOST_KEPT ? nextKept - 1 : MOST_KEPT - 1;
            System.arraycopy(past[nextKept], 0, now, 0, ROW);
            kept--;
            return true;
        }

        int takeImage() {
            if (imageCount < 0 || imageCount >= MOST_IMAGES) {
                return NONE;
            }
            System.arraycopy(now, 0, images[imageCount], 0, ROW);
            imageCount++;
            return imageCount - 1;
        }

        boolean returnTo(int image) {
            if (image < 0 || image >= imageCount || image >= MOST_IMAGES) {
                return false;
            }
            System.arraycopy(images[image], 0, now, 0, ROW);
            kept = 0;
            return true;
        }
    }

    /** Nights that are thought of: they begin as it is NOW and change nothing outside. */
    private static final class Walk {
        private static final int SEED_FACTOR = 75;
        private static final int SEED_MORE = 74;
        private static final int SEED_RANGE = 65_537;
        private static final int PAIRS = 10 * MOST_THINGS;

        private final int[] cells = new int[MOST_THINGS];
        private final int[] who = new int[CELLS];
        private final int[] inFront = new int[MOST_THINGS];
        private final int[] pairs = new int[PAIRS];
        /* One without rings until the first start, so that there is always one. */
        private House house = new House();
        private int night;
        private int fixed;
        private int pianos;
        private int inCellar;
        private int widened;
        private int seed;
        private int kept;
        private int goers;

        void start(House in, Diary diary, int heldMore) {
            house = in;
            night = diary.nightNow();
            fixed = diary.heldBits() | heldMore;
            pianos = 0;
            inCellar = 0;
            widened = NONE;
            Arrays.fill(who, NONE);
            for (int t = 0; t < house.things && t < MOST_THINGS; t++) {
                int cell = diary.cellOf(t);
                int kind = house.kindOf(t);
                cells[t] = cell;
                seat(t, cell);
                fixed |= kind == BROKEN ? 1 << t : 0;
                pianos |= kind == PIANO ? 1 << t : 0;
                inCellar |= house.sortOf(ringOfCell(cell)) == CELLAR_RING ? 1 << t : 0;
            }
        }

        void widen(int cell) {
            widened = cell;
        }

        void sow(int first) {
            seed = first;
        }

        /* Within its ring alone: whether it is in a cellar was seen at the start. */
        void shift(int t, int cell) {
            if (t >= 0 && t < MOST_THINGS) {
                seat(NONE, cells[t]);
                cells[t] = cell;
                seat(t, cell);
            }
        }

        int nightNow() {
            return night;
        }

        int cellOf(int t) {
            return t >= 0 && t < MOST_THINGS ? cells[t] : 0;
        }

        int went() {
            return goers;
        }

        int stuck() {
            return (1 << house.things) - 1 & ~goers & ~kept;
        }

        private void seat(int t, int cell) {
            if (cell >= 0 && cell < CELLS) {
                who[cell] = t;
            }
        }

        private int thingAt(int cell) {
            return cell >= 0 && cell < CELLS ? who[cell] : NONE;
        }

        void decide(int damped) {
            int comes = night + 1;
            int stays = fixed | damped;
            for (int t = 0; t < house.things && t < MOST_THINGS; t++) {
                int to = house.nextOf(cells[t]);
                inFront[t] = thingAt(to);
                if (to != widened && house.isTooLarge(t, to)) {
                    stays |= 1 << t;
                }
            }
            if (comes % PIANO_NIGHTS != 0) {
                stays |= pianos;
            }
            if (house.cellar > 0 && comes % house.cellar != 0) {
                stays |= inCellar;
            }
            kept = stays;
            goers = (1 << house.things) - 1 & ~withThoseBehind(stays);
        }

        private int withThoseBehind(int first) {
            int stays = first;
            boolean isMore = stays != 0;
            for (int turn = 0; turn < MOST_THINGS && isMore; turn++) {
                isMore = false;
                for (int t = 0; t < house.things && t < MOST_THINGS; t++) {
                    int front = inFront[t];
                    if (front >= 0 && (stays >> front & 1) != 0 && (stays >> t & 1) == 0) {
                        stays |= 1 << t;
                        isMore = true;
                    }
                }
            }
            return stays;
        }

        void pass(int damped) {
            decide(damped);
            night++;
            /* All leave before any comes: a place may be left and come to in one night. */
            for (int t = 0; t < house.things && t < MOST_THINGS; t++) {
                if ((goers >> t & 1) != 0) {
                    seat(NONE, cells[t]);
                }
            }
            for (int t = 0; t < house.things && t < MOST_THINGS; t++) {
                if ((goers >> t & 1) != 0) {
                    cells[t] = house.nextOf(cells[t]);
                    seat(t, cells[t]);
                }
            }
        }

        void passDamp() {
            int damped = 0;
            for (int t = 0; t < house.things && t < MOST_THINGS; t++) {
                seed = (SEED_FACTOR * seed + SEED_MORE) % SEED_RANGE;
                damped |= seed % 100 < house.damp ? 1 << t : 0;
            }
            pass(damped);
        }

        /** So many nights more: how often things went in them. */
        int goOn(int nights) {
            int moves = 0;
            for (int k = 0; k < nights; k++) {
                pass(0);
                moves += Integer.bitCount(goers);
            }
            return moves;
        }

        boolean atDoor(int t, int other) {
            return house.hasDoor(cellOf(t), cellOf(other));
        }

        boolean isAsIn(Diary diary) {
            for (int t = 0; t < house.things && t < MOST_THINGS; t++) {
                if (cells[t] != diary.cellOf(t)) {
                    return false;
                }
            }
            return true;
        }

        /* 10 times the lesser and the other one of the two at a door, which orders pairs too. */
        private int pairAt(int d) {
            int one = thingAt(house.doorSide(d, false));
            int two = thingAt(house.doorSide(d, true));
            if (one < 0 || two < 0) {
                return ABSENT;
            }
            return 10 * Math.min(one, two) + Math.max(one, two);
        }

        int firstPair() {
            int first = ABSENT;
            for (int d = 0; d < house.doors; d++) {
                int pair = pairAt(d);
                if (pair >= 0 && (first == ABSENT || pair < first)) {
                    first = pair;
                }
            }
            return first;
        }

        int mostPair(int nights) {
            Arrays.fill(pairs, 0);
            for (int k = 0; k < nights; k++) {
                pass(0);
                for (int d = 0; d < house.doors; d++) {
                    int pair = pairAt(d);
                    if (pair >= 0 && pair < PAIRS) {
                        pairs[pair]++;
                    }
                }
            }
            int most = 0;
            int chosen = ABSENT;
            for (int pair = 0; pair < PAIRS; pair++) {
                if (pairs[pair] > most) {
                    most = pairs[pair];
                    chosen = pair;
                }
            }
            return chosen;
        }
    }

    /** Whom to hold. Only things that could go, in the rings it is about, are tried: others change nothing. */
    private static final class Holder {
        private final Walk walk = new Walk();

        private static int freeIn(House house, Diary diary, int rings) {
            int bits = 0;
            for (int t = 0; t < house.things; t++) {
                boolean isIn = (rings >> ringOfCell(diary.cellOf(t)) & 1) != 0;
                if (isIn && !diary.isHeld(t) && house.kindOf(t) != BROKEN) {
                    bits |= 1 << t;
                }
            }
            return bits;
        }

        private static boolean isOfThese(int bits, int count, int free) {
            return (bits & ~free) == 0 && Integer.bitCount(bits) == count;
        }

        int fewestForPlace(House house, Diary diary, int t, int cell, int nights) {
            return fewest(house, diary, t, t, cell, nights);
        }

        int fewestToMeet(House house, Diary diary, int t, int other, int nights) {
            return fewest(house, diary, t, other, NONE, nights);
        }

        private int fewest(House house, Diary diary, int t, int other, int cell, int nights) {
            int rings = 1 << ringOfCell(diary.cellOf(t)) | 1 << ringOfCell(diary.cellOf(other));
            int free = freeIn(house, diary, rings);
            for (int count = 0; count <= Integer.bitCount(free); count++) {
                for (int bits = 0; bits <= free; bits++) {
                    if (isOfThese(bits, count, free)) {
                        walk.start(house, diary, bits);
                        walk.goOn(nights);
                        if (isReached(t, other, cell)) {
                            return bits;
                        }
                    }
                }
            }
            return ABSENT;
        }

        /* No thing meets itself: named twice, it is about its place. */
        private boolean isReached(int t, int other, int cell) {
            return t == other ? walk.cellOf(t) == cell : walk.atDoor(t, other);
        }

        /* What goes on in one ring changes nothing in another: each is looked at alone. */
        int bestFor(House house, Diary diary, int n) {
            int reach = house.wants.withinReach(diary, n);
            int chosen = 0;
            for (int r = 0; r < house.rings; r++) {
                chosen |= bestInRing(house, diary, house.wants.ofRing(reach, r), r);
            }
            return chosen;
        }

        private int bestInRing(House house, Diary diary, int wanted, int r) {
            int possible = house.wants.worthOf(wanted);
            int free = freeIn(house, diary, 1 << r);
            int most = NONE;
            int chosen = 0;
            for (int count = 0; count <= Integer.bitCount(free); count++) {
                for (int bits = 0; bits <= free && most < possible; bits++) {
                    if (isOfThese(bits, count, free)) {
                        int paid = house.wants.worthOf(paidOf(wanted, house, diary, bits));
                        if (paid > most) {
                            most = paid;
                            chosen = bits;
                        }
                    }
                }
            }
            return chosen;
        }

        /** Wants that pay within n nights if these are held more, as bits. */
        int paidWithin(House house, Diary diary, int heldMore, int n) {
            return paidOf(house.wants.withinReach(diary, n), house, diary, heldMore);
        }

        private int paidOf(int wanted, House house, Diary diary, int heldMore) {
            int last = house.wants.lastNightOf(wanted);
            int bits = 0;
            walk.start(house, diary, heldMore);
            for (int k = 0; k < LAST_WANT && walk.nightNow() < last; k++) {
                walk.pass(0);
                bits |= house.wants.paidBy(walk);
            }
            return bits & wanted;
        }
    }

    /** The rules that the box may go by, each as 10,000 times places, 100 times steps and the first place. */
    private static final class Box {
        private final int[] ruleNumbers = new int[BOX_RULES];
        private final int[] seen = new int[BOX_PLACES];
        private int size;
        private boolean hasLooked;
        private int lookAt;
        private int lookLeft;

        void learn(House house) {
            size = 0;
            hasLooked = false;
            for (int places = 2; places <= BOX_PLACES; places++) {
                for (int step = 1; step < places; step++) {
                    for (int first = 0; first < places; first++) {
                        if (house.allowsRule(places, step, first)) {
                            add(10_000 * places + 100 * step + first);
                        }
                    }
                }
            }
        }

        private void add(int rule) {
            if (size >= 0 && size < BOX_RULES) {
                ruleNumbers[size] = rule;
                size++;
            }
        }

        int count() {
            return size;
        }

        int ruleNumber(int i) {
            return i >= 0 && i < size && i < BOX_RULES ? ruleNumbers[i] : 0;
        }

        private static int placeBy(int rule, int night) {
            int places = rule / 10_000;
            if (places <= 0) {
                return 0;
            }
            return (rule % 100 + rule / 100 % 100 * night) % places;
        }

        int countAt(int night, int place) {
            int sum = 0;
            for (int i = 0; i < size; i++) {
                sum += placeBy(ruleNumber(i), night) == place ? 1 : 0;
            }
            return sum;
        }

        int firstSure(int from) {
            for (int night = from; night < BOX_NIGHTS && size > 0; night++) {
                if (isSure(night)) {
                    return night;
                }
            }
            return ABSENT;
        }

        private boolean isSure(int night) {
            for (int i = 0; i < size; i++) {
                if (placeBy(ruleNumber(i), night) != 0) {
                    return false;
                }
            }
            return true;
        }

        int bestLook() {
            lookOnce();
            return lookAt;
        }

        int leftByLook() {
            lookOnce();
            return lookLeft;
        }

        /* Only a new house changes it, and it goes over all rules on all nights. */
        private void lookOnce() {
            if (hasLooked) {
                return;
            }
            hasLooked = true;
            lookAt = ABSENT;
            lookLeft = ABSENT;
            for (int night = 0; night < BOX_NIGHTS && size > 0; night++) {
                countSeen(night);
                for (int place = 0; place < BOX_PLACES; place++) {
                    int left = Math.max(seen[place], size - seen[place]);
                    if (lookAt == ABSENT || left < lookLeft) {
                        lookAt = 100 * night + place;
                        lookLeft = left;
                    }
                }
            }
        }

        private void countSeen(int night) {
            Arrays.fill(seen, 0);
            for (int i = 0; i < size; i++) {
                int place = placeBy(ruleNumber(i), night);
                if (place >= 0 && place < BOX_PLACES) {
                    seen[place]++;
                }
            }
        }
    }

    /** Two who bid nights for a worth. */
    private static final class Heirs {
        private Heirs() {
        }

        static int gain(int worth, int own, int others) {
            int has = 0;
            if (own > others) {
                has = worth;
            } else if (own == others) {
                has = worth / 2;
            }
            return has - own * own;
        }

        static boolean areAtRest(int worth, int one, int other) {
            int ofOne = gain(worth, one, other);
            int ofOther = gain(worth, other, one);
            for (int bid = 0; bid <= MOST_BID; bid++) {
                if (gain(worth, bid, other) > ofOne || gain(worth, bid, one) > ofOther) {
                    return false;
                }
            }
            return true;
        }
    }
}
