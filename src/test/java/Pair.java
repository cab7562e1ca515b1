import java.lang.reflect.InvocationTargetException;
import java.lang.reflect.Method;
import java.util.HashMap;
import java.util.Map;

/** A new WholeNumbers and a new Model side by side: every call goes to both, and their answers are compared. */
final class Pair {
    /** An object is used for so many calls; what later ones answer is free. */
    static final int MOST_CALLS = 512;

    private static final Map<String, Method> PROGRAM = methods(WholeNumbers.class);
    private static final Map<String, Method> MODEL = methods(Model.class);

    final WholeNumbers program = new WholeNumbers();
    final Model model = new Model();
    private final StringBuilder calls = new StringBuilder();
    private int count;

    int callsLeft() {
        return MOST_CALLS - count;
    }

    /** Answers what both answered. */
    String call(String name, Object... arguments) {
        count++;
        if (count > MOST_CALLS) {
            throw new IllegalStateException("a test makes more calls than an object is used for");
        }
        calls.append(name).append(java.util.Arrays.toString(arguments)).append('\n');
        String due = answer(MODEL.get(name), model, arguments);
        String given = answer(PROGRAM.get(name), program, arguments);
        if (!due.equals(given)) {
            throw new IllegalStateException("the last call answered " + given + ", due is " + due + ":\n" + calls);
        }
        return given;
    }

    private static Map<String, Method> methods(Class<?> from) {
        Map<String, Method> found = new HashMap<>();
        for (Method method : from.getDeclaredMethods()) {
            found.put(method.getName(), method);
        }
        return found;
    }

    private static String answer(Method method, Object on, Object... arguments) {
        try {
            return String.valueOf(method.invoke(on, arguments));
        } catch (InvocationTargetException e) {
            return "throws." + e.getCause().getClass().getSimpleName();
        } catch (IllegalAccessException e) {
            throw new IllegalStateException(e);
        }
    }
}
