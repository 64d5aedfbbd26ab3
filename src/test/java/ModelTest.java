import java.lang.reflect.Method;
import java.lang.reflect.Modifier;
import java.util.ArrayList;
import java.util.Arrays;
import java.util.Comparator;
import java.util.List;
import java.util.Random;

/** Runs of calls by numbers that are always the same, on the class and on the model: all promises. */
public final class ModelTest {
    private static final Checks CHECKS = new Checks("ModelTest");
    private static final String[] ACTS = {"hold", "let", "put", "night", "night", "undo", "image", "back"};
    private static final List<Method> FACE = new ArrayList<>();

    private final Random random;
    private final Pair pair = new Pair();
    private final List<String> calls = new ArrayList<>();

    private ModelTest(long seed) {
        random = new Random(seed);
    }

    public static void main(String[] args) throws ReflectiveOperationException {
        int runs = args.length > 0 ? Integer.parseInt(args[0]) : 400;
        long from = args.length > 1 ? Long.parseLong(args[1]) : 0;
        for (Method m : NightRound.class.getDeclaredMethods()) {
            if (Modifier.isPublic(m.getModifiers())) {
                FACE.add(m);
            }
        }
        FACE.sort(Comparator.comparing(Method::getName));
        for (long seed = from; seed < from + runs; seed++) {
            new ModelTest(seed).run();
            new ModelTest(seed).runOfTexts();
        }
        CHECKS.end();
    }

    private int up(int n) {
        return random.nextInt(n);
    }

    private void run() throws ReflectiveOperationException {
        if (up(10) == 0) {
            someCalls(15);
        }
        String text = new RandomHouse(random).text();
        tell(text);
        someCalls(40);
        for (int i = 0; i < 4; i++) {
            for (int k = up(25); k > 0; k--) {
                act();
            }
            someCalls(12);
        }
        tell(new RandomHouse(random).spoilt());
        someCalls(20);
    }

    private void runOfTexts() throws ReflectiveOperationException {
        for (int i = 0; i < 40; i++) {
            tell(new RandomHouse(random).spoilt());
            for (int what = 0; what <= 12; what++) {
                same("size", what);
            }
        }
    }

    private void tell(String text) throws ReflectiveOperationException {
        if (text.length() <= 900) {
            pair.feed(text);
            calls.add(text);
            same("house", text.length());
            same("fault");
            same("where");
        }
    }

    private void act() throws ReflectiveOperationException {
        String name = ACTS[up(ACTS.length)];
        for (Method m : FACE) {
            if (m.getName().equals(name)) {
                same(m);
            }
        }
    }

    private void someCalls(int count) throws ReflectiveOperationException {
        for (int i = 0; i < count; i++) {
            Method m = FACE.get(up(FACE.size()));
            if (!m.getName().equals("feed") && !m.getName().equals("house")) {
                same(m);
            }
        }
    }

    private void same(String name, int... numbers) throws ReflectiveOperationException {
        for (Method m : FACE) {
            if (m.getName().equals(name)) {
                compare(m, Arrays.stream(numbers).boxed().toArray());
            }
        }
    }

    private void same(Method m) throws ReflectiveOperationException {
        Object[] arguments = new Object[m.getParameterCount()];
        for (int i = 0; i < arguments.length; i++) {
            arguments[i] = m.getParameterTypes()[i] == boolean.class ? (Object) random.nextBoolean() : (Object) argument(m.getName(), i);
        }
        compare(m, arguments);
    }

    private int wrongOr(int least, int most) {
        int dice = up(40);
        if (dice < 2) {
            return dice == 0 ? least - 1 : most + 1;
        }
        if (dice == 2) {
            return random.nextInt();
        }
        return dice < 6 ? most : least + up(most - least + 1);
    }

    private int argument(String name, int i) {
        int thing = wrongOr(0, Math.max(0, pair.model.sizesNow().get("things") - 1));
        int ring = wrongOr(0, Math.max(0, pair.model.sizesNow().get("rings") - 1));
        int place = wrongOr(0, 3 + up(5));
        switch (name + i) {
            case "ring0": case "at0": case "narrow0": case "when1": case "holds1": case "put1":
                return up(3) > 0 && name.matches("when|holds") ? Math.max(0, pair.model.thing(0, 1)) : ring;
            case "ring1": case "thing1":
                return wrongOr(0, 4);
            case "at1": case "narrow1": case "when2": case "holds2": case "put2": case "putFor1": case "dampWhen1":
                return place;
            case "behind1": case "steps1": case "meetings2":
                return wrongOr(0, 200);
            case "worstHeld0": case "putFor2": case "pays0": case "best0": case "bestPays0": case "damp2": case "dampSteps1": case "dampWhen3":
                return wrongOr(0, 60);
            case "holds3": case "holdsToMeet2":
                return wrongOr(0, 30);
            case "ruleAt0":
                return up(2) == 0 ? wrongOr(0, 571) : up(12);
            case "there0": case "surely0": case "heir0": case "rests0": case "rest0":
                return up(2) == 0 ? wrongOr(0, 99) : up(9);
            case "there1":
                return wrongOr(0, 11);
            case "heir1": case "heir2":
                return wrongOr(0, 6);
            case "damp1": case "dampSteps0": case "dampWhen2":
                return wrongOr(0, 65_536);
            case "back0": case "led0":
                return wrongOr(0, 2);
            case "size0":
                return wrongOr(0, 12);
            default:
                return thing;
        }
    }

    private void compare(Method m, Object[] arguments) throws ReflectiveOperationException {
        String different = pair.compare(m, arguments);
        calls.add(m.getName() + Arrays.toString(arguments) + " = " + pair.latestDue());
        boolean same = different.isEmpty();
        CHECKS.due(String.join("\n  ", calls.subList(same ? calls.size() - 1 : 0, calls.size())) + "\n " + different, same, true);
    }
}
