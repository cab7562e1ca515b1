import java.io.IOException;
import java.nio.file.Files;
import java.nio.file.Path;
import java.util.ArrayList;
import java.util.List;
import java.util.Set;
import java.util.TreeSet;
import java.util.concurrent.TimeUnit;
import java.util.regex.Matcher;
import java.util.regex.Pattern;

/**
 * Shows that the tests of the sentences would fail if the sentences were broken: it breaks WholeNumbers.java in each
 * way that breaks.txt tells, and looks whether the test of the sentence named there fails.
 * Arguments: the file WholeNumbers.java, breaks.txt, the directory of the compiled tests, a directory to work in.
 */
public final class Broken {
    private static final int MOST_SECONDS = 120;

    private final String title;
    private final List<String> from = new ArrayList<>();
    private final List<String> to = new ArrayList<>();

    private Broken(String title) {
        this.title = title;
    }

    public static void main(String[] arguments) throws IOException {
        String program = Files.readString(Path.of(arguments[0]));
        List<Broken> all = load(Files.readString(Path.of(arguments[1])));
        SentencesTest.main(new String[0]);
        Set<String> left = new TreeSet<>(Sentences.titles());
        List<String> wrong = new ArrayList<>();
        List<Integer> places = new ArrayList<>();
        for (int i = 0; i < all.size(); i++) {
            left.remove(all.get(i).title);
            places.add(i);
        }
        left.forEach(title -> wrong.add("no break of " + title));
        places.parallelStream().forEach(i -> {
            String flaw = all.get(i).flaw(program, arguments[2], Path.of(arguments[3], "broken" + i));
            synchronized (wrong) {
                if (flaw != null) {
                    wrong.add(flaw + ": " + all.get(i).title + "\n    " + String.join("\n    ", all.get(i).to));
                }
            }
        });
        wrong.forEach(System.out::println);
        System.out.println("Broken: " + all.size() + " breaks, " + wrong.size() + " things are not as due");
        System.exit(wrong.isEmpty() ? 0 : 1);
    }

    private static List<Broken> load(String text) {
        List<Broken> all = new ArrayList<>();
        boolean wasTo = true;
        for (String line : text.split("\n")) {
            Broken last = all.isEmpty() ? null : all.get(all.size() - 1);
            String rest = line.length() > 3 ? line.substring(3) : "";
            if (line.startsWith("== ")) {
                all.add(new Broken(rest));
                wasTo = true;
            } else if (line.startsWith("-- ")) {
                // Lines that follow one another are one piece; behind '++' a new piece begins.
                put(last.from, rest, wasTo);
                wasTo = false;
            } else if (line.startsWith("++ ")) {
                put(last.to, rest, !wasTo);
                wasTo = true;
            }
        }
        return all;
    }

    private static void put(List<String> pieces, String line, boolean isNew) {
        if (isNew) {
            pieces.add(line);
        } else {
            pieces.set(pieces.size() - 1, pieces.get(pieces.size() - 1) + "\n" + line);
        }
    }

    /** What is not as due with this break, or null. */
    private String flaw(String program, String tests, Path work) {
        String broken = program;
        for (int i = 0; i < from.size(); i++) {
            Matcher matcher = Pattern.compile(Pattern.quote(from.get(i)).replace("\n", "\\E\\s+\\Q")).matcher(broken);
            if (matcher.results().count() != 1) {
                return "what is to be broken does not stand there once";
            }
            broken = matcher.replaceFirst(Matcher.quoteReplacement(to.get(i)));
        }
        try {
            Files.createDirectories(work);
            Path file = Files.writeString(work.resolve("WholeNumbers.java"), broken);
            if (!run("javac", "-d", work.toString(), file.toString()).isEmpty()) {
                return "the broken program does not compile";
            }
            String said = run("java", "-cp", work + java.io.File.pathSeparator + tests, "SentencesTest");
            return said.contains(title + ": ") ? null : "the test does not fail";
        } catch (IOException e) {
            throw new IllegalStateException(e);
        }
    }

    private static String run(String... command) throws IOException {
        Path said = Files.createTempFile("broken", ".txt");
        try {
            ProcessBuilder builder = new ProcessBuilder(command).redirectErrorStream(true);
            Process process = builder.redirectOutput(said.toFile()).start();
            if (!process.waitFor(MOST_SECONDS, TimeUnit.SECONDS)) {
                process.destroyForcibly();
            }
            return Files.readString(said);
        } catch (InterruptedException e) {
            throw new IllegalStateException(e);
        } finally {
            Files.delete(said);
        }
    }
}
