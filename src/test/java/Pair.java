import java.lang.reflect.InvocationTargetException;
import java.lang.reflect.Method;
import java.util.Arrays;

/** An object of the class and one of the model that have had the same calls. */
final class Pair {
    final NightRound x = new NightRound();
    final Model model = new Model();
    private Object latest = "";

    /** What was due for the latest call compared. */
    Object latestDue() {
        return latest;
    }

    void feed(String text) {
        for (int from = 0; from < text.length(); from += 20) {
            int[] five = new int[5];
            for (int i = 0; i < 5; i++) {
                five[i] = Told.number(text, from + 4 * i);
            }
            x.feed(five[0], five[1], five[2], five[3], five[4]);
            model.feed(five[0], five[1], five[2], five[3], five[4]);
        }
    }

    void tell(String text) throws ReflectiveOperationException {
        feed(text);
        call("house", text.length());
    }

    void call(String name, Integer... numbers) throws ReflectiveOperationException {
        Class<?>[] types = new Class<?>[numbers.length];
        Arrays.fill(types, int.class);
        NightRound.class.getDeclaredMethod(name, types).invoke(x, (Object[]) numbers);
        Model.class.getDeclaredMethod(name, types).invoke(model, (Object[]) numbers);
    }

    private static Object answer(Method m, Object of, Object[] arguments) throws ReflectiveOperationException {
        try {
            Object answer = m.invoke(of, arguments);
            return answer instanceof Boolean ? (Boolean) answer ? 1 : 0 : answer;
        } catch (InvocationTargetException e) {
            return e.getCause().getClass().getName();
        }
    }

    /** How the two differ by a call; "" if they don't. */
    String compare(Method m, Object[] arguments) throws ReflectiveOperationException {
        Object due = answer(Model.class.getDeclaredMethod(m.getName(), m.getParameterTypes()), model, arguments);
        Object got = answer(m, x, arguments);
        latest = due;
        boolean same = due.equals(got) && x.trouble() == model.trouble() && x.where() == model.where() && x.fault() == model.fault();
        return same ? "" : " answered " + got + ", due is " + due + ", trouble " + x.trouble() + ", due is " + model.trouble();
    }
}
