import java.lang.reflect.InvocationTargetException;
import java.lang.reflect.Method;
import java.util.HashMap;
import java.util.Map;

/**
 * Runs written as text, each on a new object, a call a line, or behind a semicolon: the name, the arguments and,
 * behind '=', the answer due (a call with none behind it must only return). An answer throws.X means that the call
 * throws X. Two lines stand for many calls: 'feedAll WORD' feeds its characters, and 'printed A BASE = WORD' prints
 * register a and looks at every character.
 */
final class Runs {
    /** An object is used for so many calls; what later ones answer is free. */
    private static final int MOST_CALLS = 512;

    private static final Map<String, Method> FACE = new HashMap<>();

    static {
        for (Method method : WholeNumbers.class.getMethods()) {
            if (method.getDeclaringClass() == WholeNumbers.class) {
                FACE.put(method.getName(), method);
            }
        }
    }

    private final String title;
    private final WholeNumbers object = new WholeNumbers();
    private int calls;
    private static int wrong;

    private Runs(String title) {
        this.title = title;
    }

    static void run(String title, String lines) {
        Runs run = new Runs(title);
        for (String line : lines.split("[\n;]")) {
            if (!line.isBlank()) {
                run.line(line.strip());
            }
        }
    }

    /** The lines once for each row, with its words in place of A, B and so on. */
    static String rows(String lines, String... rows) {
        StringBuilder run = new StringBuilder();
        for (String row : rows) {
            String[] words = row.split(" ");
            String filled = lines;
            for (int i = 0; i < words.length; i++) {
                filled = filled.replaceAll("\\b" + (char) ('A' + i) + "\\b", words[i]);
            }
            run.append(filled);
        }
        return run.toString();
    }

    /** For what a test finds wrong besides an answer. */
    static void fail(String what) {
        wrong++;
        System.out.println(what);
    }

    /** Ends the program with exit code 1 if an answer was not as due. */
    static void finish(String name) {
        System.out.println(name + ": " + (wrong == 0 ? "all answers are as due" : wrong + " answers are not as due"));
        if (wrong > 0) {
            System.exit(1);
        }
    }

    private void line(String line) {
        String[] halves = line.split(" = ");
        String[] words = halves[0].split(" ");
        switch (words[0]) {
            case "feedAll":
                words[1].chars().forEach(c -> due(line, call("feed", String.valueOf(c)), "true"));
                break;
            case "printed":
                printed(line, words, halves[1]);
                break;
            default:
                String answer = call(words[0], java.util.Arrays.copyOfRange(words, 1, words.length));
                if (halves.length > 1) {
                    due(line, answer, halves[1]);
                } else if (answer.startsWith("throws.")) {
                    due(line, answer, "anything but that");
                }
        }
    }

    private void printed(String line, String[] words, String want) {
        due(line, call("print", words[1], words[2]), String.valueOf(want.length()));
        for (int i = 0; i < want.length(); i++) {
            due(line + ", character " + i, call("out", String.valueOf(i)), String.valueOf((int) want.charAt(i)));
        }
        due(line + ", behind it", call("out", String.valueOf(want.length())), "-1");
    }

    private String call(String name, String... words) {
        calls++;
        if (calls > MOST_CALLS) {
            throw new IllegalStateException(title + " has more calls than an object is used for");
        }
        Method method = FACE.get(name);
        Object[] arguments = new Object[words.length];
        for (int i = 0; i < words.length; i++) {
            boolean isLong = method.getParameterTypes()[i] == long.class;
            arguments[i] = isLong ? (Object) Long.valueOf(words[i]) : (Object) Integer.valueOf(words[i]);
        }
        try {
            return String.valueOf(method.invoke(object, arguments));
        } catch (InvocationTargetException e) {
            return "throws." + e.getCause().getClass().getSimpleName();
        } catch (IllegalAccessException e) {
            throw new IllegalStateException(e);
        }
    }

    private void due(String what, String given, String want) {
        if (!given.equals(want)) {
            fail(title + ": " + what + ": answered " + given + ", due is " + want);
        }
    }
}
