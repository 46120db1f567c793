import java.lang.reflect.Method;
import java.lang.reflect.Modifier;
import java.net.URL;
import java.net.URLClassLoader;
import java.nio.file.Files;
import java.nio.file.Path;
import java.util.ArrayList;
import java.util.List;
import java.util.Set;
import java.util.TreeSet;
import java.util.regex.Matcher;
import java.util.regex.Pattern;
import java.util.stream.Stream;
import javax.tools.JavaCompiler;
import javax.tools.ToolProvider;

/**
 * README.md against the class: its pieces of Java, put together, are compiled and run as they stand, and each call
 * answers what is shown behind it; each call and each refusal is shown; the tests it names are those there are.
 */
final class ReadmeTest {
    private static final Path README = Path.of("README.md");
    private static final Path TESTS = Path.of("src/test/java");
    private static final Pattern SHOWN =
        Pattern.compile("(clock\\.(\\w+)\\(.*\\)); +// (-?\\d+|UNKNOWN|OUTSIDE|STATE|FULL|NONE)(: .+)?");
    private static final Pattern REFUSAL = Pattern.compile("`([A-Z]+)`\\s\\((-\\d)");

    private final Check check = new Check("ReadmeTest");
    private final List<String> lines;
    private final List<String> program = new ArrayList<>();
    private final List<String> calls = new ArrayList<>();
    private final List<String> answers = new ArrayList<>();
    private final Set<String> names = new TreeSet<>();

    private ReadmeTest(List<String> lines) {
        this.lines = lines;
    }

    public static void main(String[] args) throws Exception {
        ReadmeTest test = new ReadmeTest(Files.readAllLines(README));
        test.readProgram();
        test.answersHold();
        test.allCallsAreShown();
        test.refusalsHold();
        test.testsAreThoseThereAre();
        test.check.end();
    }

    /** Calls in a loop are run, too, but show no answer; each other one must. */
    private void readProgram() {
        boolean isJava = false;
        for (String line : lines) {
            if (line.startsWith("```")) {
                isJava = line.equals("```java");
            } else if (isJava) {
                readLine(line);
            }
        }
        check.holds("README.md shows calls", !calls.isEmpty());
    }

    private void readLine(String line) {
        Matcher shown = SHOWN.matcher(line);
        if (shown.matches()) {
            program.add("got.add((long) " + shown.group(1) + ");");
            calls.add(shown.group(1));
            names.add(shown.group(2));
            answers.add(shown.group(3));
        } else {
            check.holds("an answer is shown: " + line, !line.startsWith("clock."));
            program.add(line);
        }
    }

    private void answersHold() throws Exception {
        List<Long> got = run();
        check.due("README.md: calls that answered", got.size(), calls.size());
        for (int i = 0; i < got.size(); i++) {
            check.due("README.md: " + calls.get(i), got.get(i), valueOf(answers.get(i)));
        }
    }

    private static long valueOf(String answer) throws Exception {
        boolean isName = Character.isLetter(answer.charAt(0));
        return isName ? ClockOnce.class.getField(answer).getInt(null) : Long.parseLong(answer);
    }

    private List<Long> run() throws Exception {
        Path made = Files.createTempDirectory("readme");
        Path source = made.resolve("Readme.java");
        Files.writeString(source, "public final class Readme { public static void run(java.util.List<Long> got) {\n"
            + String.join("\n", program) + "\n} }\n");
        List<Long> got = new ArrayList<>();
        JavaCompiler javac = ToolProvider.getSystemJavaCompiler();
        String path = System.getProperty("java.class.path");
        int failed = javac.run(null, null, null, "-cp", path, "-d", made.toString(), source.toString());
        check.due("README.md compiled", failed, 0);
        if (failed == 0) {
            try (URLClassLoader loader = new URLClassLoader(new URL[] {made.toUri().toURL()})) {
                loader.loadClass("Readme").getMethod("run", List.class).invoke(null, got);
            }
        }
        Files.deleteIfExists(made.resolve("Readme.class"));
        Files.delete(source);
        Files.delete(made);
        return got;
    }

    private void allCallsAreShown() {
        for (Method method : ClockOnce.class.getDeclaredMethods()) {
            if (Modifier.isPublic(method.getModifiers())) {
                check.holds("README.md shows " + method.getName(), names.contains(method.getName()));
            }
        }
        for (String answer : List.of("UNKNOWN", "OUTSIDE", "STATE", "FULL", "NONE")) {
            check.holds("README.md shows the answer " + answer, answers.contains(answer));
        }
    }

    private void refusalsHold() throws Exception {
        Set<String> told = new TreeSet<>();
        Matcher refusal = REFUSAL.matcher(String.join("\n", lines));
        while (refusal.find()) {
            told.add(refusal.group(1));
            check.due("README.md: " + refusal.group(1), valueOf(refusal.group(1)), Long.parseLong(refusal.group(2)));
        }
        check.due("README.md: refusals and NONE", told.size(), 5);
    }

    private void testsAreThoseThereAre() throws Exception {
        Set<String> there = new TreeSet<>();
        try (Stream<Path> files = Files.list(TESTS)) {
            files.map(file -> file.getFileName().toString()).filter(name -> name.endsWith("Test.java"))
                .forEach(name -> there.add(name.substring(0, name.length() - 5)));
        }
        Set<String> told = new TreeSet<>();
        Matcher name = Pattern.compile("`(\\w+Test)`").matcher(String.join("\n", lines));
        while (name.find()) {
            told.add(name.group(1));
        }
        check.holds("README.md tells of the tests " + there + ", it tells of " + told, told.equals(there));
    }
}
