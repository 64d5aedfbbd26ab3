import java.lang.reflect.Method;
import java.lang.reflect.Modifier;
import java.util.ArrayList;
import java.util.Comparator;
import java.util.List;

/** Each call with all numbers at, just within and far beyond its edges, on the emptiest and on the fullest: as the model answers. */
public final class ExtremesTest {
    private static final Checks CHECKS = new Checks("ExtremesTest");
    private static final int[] ONE = {Integer.MIN_VALUE, -65_537, -100, -2, -1, 0, 1, 2, 3, 4, 5, 6, 7, 8, 9, 10, 11, 12, 13, 29, 30, 31, 59, 60, 61,
        98, 99, 100, 101, 199, 200, 201, 571, 572, 899, 900, 901, 999, 65_535, 65_536, 65_537, Integer.MAX_VALUE};
    private static final int[] TWO = {Integer.MIN_VALUE, -1, 0, 1, 3, 4, 6, 7, 8, 9, 11, 12, 60, 61, 99, 100, 200, 201, 65_536, 65_537, Integer.MAX_VALUE};
    private static final int[] MANY = {Integer.MIN_VALUE, -1, 0, 1, 6, 7, 9, 30, 31, 60, 61, 65_536, Integer.MAX_VALUE};
    private static final String SMALLEST = "house cellar 1 damp 0;ring r plain places 2";
    private static final String PLAIN = "house cellar 2 damp 50;ring r plain places 9;ring q attic places 9;door r 0 q 0;door r 8 q 8;narrow r 3 by 4;"
        + "thing a plain in r at 0 size 5;thing b pet in r at 2 size 5;thing c plain in q at 8 size 5;want a in r at 2 night 60 pays 99;found 99 at 11";

    private static final List<String> ACTS = List.of("house", "hold", "let", "put", "night", "undo", "image", "back");
    /* With those that compare what a call leaves behind, less than 512. */
    private static final int CALLS_OF_ONE = 100;

    private final Method method;
    private final String text;
    private final List<Integer> row = new ArrayList<>();
    private Pair pair;
    private int calls;

    private ExtremesTest(Method method, String text) {
        this.method = method;
        this.text = text;
    }

    public static void main(String[] args) throws ReflectiveOperationException {
        List<Method> face = new ArrayList<>();
        for (Method m : NightRound.class.getDeclaredMethods()) {
            if (Modifier.isPublic(m.getModifiers()) && !m.getName().equals("feed")) {
                face.add(m);
            }
        }
        face.sort(Comparator.comparing(Method::getName));
        for (String text : new String[] {"", SMALLEST, PLAIN, Told.FULLEST}) {
            for (Method m : face) {
                int count = m.getParameterCount();
                new ExtremesTest(m, text).askAll(count <= 1 ? ONE : count == 2 ? TWO : MANY);
            }
        }
        CHECKS.end();
    }

    private void askAll(int[] numbers) throws ReflectiveOperationException {
        if (row.size() == method.getParameterCount()) {
            ask();
            return;
        }
        for (int number : numbers) {
            row.add(number);
            askAll(numbers);
            row.remove(row.size() - 1);
        }
    }

    private void ask() throws ReflectiveOperationException {
        Object[] arguments = row.toArray();
        if (method.getName().equals("heir")) {
            arguments[3] = row.get(3) > 0;
        }
        /* What an act leaves would be another state for the next row of numbers. */
        if (pair == null || calls == CALLS_OF_ONE || ACTS.contains(method.getName())) {
            pair = afresh();
            calls = 0;
        }
        calls++;
        String different = pair.compare(method, arguments);
        CHECKS.due(text + ": " + method.getName() + row + different, different.isEmpty(), true);
    }

    private Pair afresh() throws ReflectiveOperationException {
        Pair fresh = new Pair();
        if (!text.isEmpty()) {
            fresh.tell(text);
            fresh.call("night");
            fresh.call("hold", 0);
            fresh.call("image");
            fresh.call("put", 1, 0, 1);
        }
        return fresh;
    }
}
