import java.lang.reflect.Constructor;
import java.lang.reflect.Field;
import java.lang.reflect.Method;
import java.lang.reflect.Modifier;
import java.nio.file.Files;
import java.nio.file.Path;
import java.util.ArrayList;
import java.util.List;
import java.util.Set;
import java.util.TreeSet;
import java.util.regex.Matcher;
import java.util.regex.Pattern;

/** The rules of LANGUAGE.md that can be looked up in the source and in the compiled class. */
final class LanguageTest {
    private static final Path SOURCE = Path.of("src/main/java/ClockOnce.java");
    private static final String[] FACE = {
        "int again(int)", "int ask(int,int)", "int asker(int,int)", "int by(int)", "int count(int)", "int day()",
        "int fault()", "int fewest()", "int holds(int)", "int judge(int,int)", "int keep(int)",
        "int likely(int,int,boolean)", "int see(int,int)", "int sell(int)", "int share(int,boolean)",
        "int thing(int,int)", "int toAsk()", "int town()", "int undo()", "int unsee()", "int which()", "int wipe()",
        "int wise(int,int)", "int worlds(int)", "int worth(int,boolean)", "int write(int)", "int year(int)",
        "long seed(long)"
    };
    // Most of these would also be found as identifiers; none of them is wanted as such either.
    private static final String[] FORBIDDEN = {
        "\\bthrow\\b", "\\bthrows\\b", "\\btry\\b", "\\bcatch\\b", "\\bsynchronized\\b", "\\bassert\\b", "->", "::",
        "\\bprotected\\b", "\\bimport\\b", "\\bpackage\\b", "Exact\\b", "\\bhashCode\\b", "\\btoString\\b",
        "\\bSystem\\.(?!arraycopy)", "\\bstatic\\s*\\{", "\\bdouble\\b", "\\bfloat\\b", "\\bvar\\b"
    };

    private final Check check = new Check("LanguageTest");
    private final String source;
    private final List<Class<?>> classes = new ArrayList<>();

    private LanguageTest(String source) {
        this.source = source;
        classes.add(ClockOnce.class);
        classes.addAll(List.of(ClockOnce.class.getDeclaredClasses()));
    }

    public static void main(String[] args) throws Exception {
        LanguageTest test = new LanguageTest(Files.readString(SOURCE));
        test.face();
        test.classesInside();
        test.staticFields();
        test.methods();
        test.words();
        test.nothingMadeByCalls();
        test.check.end();
    }

    private void face() {
        Set<String> found = new TreeSet<>();
        for (Method m : ClockOnce.class.getDeclaredMethods()) {
            if (Modifier.isPrivate(m.getModifiers())) {
                continue;
            }
            List<String> types = new ArrayList<>();
            for (Class<?> type : m.getParameterTypes()) {
                types.add(type.getName());
            }
            check.holds(m.getName() + " is public", Modifier.isPublic(m.getModifiers()));
            found.add(m.getReturnType().getName() + " " + m.getName() + "(" + String.join(",", types) + ")");
        }
        check.holds("the face's methods: " + found, found.equals(new TreeSet<>(List.of(FACE))));
        Set<String> constants = new TreeSet<>();
        for (Field f : ClockOnce.class.getDeclaredFields()) {
            if (!Modifier.isPrivate(f.getModifiers())) {
                constants.add(f.getName());
            }
        }
        check.holds("the face's constants: " + constants, constants.equals(Set.of("UNKNOWN", "OUTSIDE", "STATE", "FULL", "NONE")));
        Constructor<?>[] made = ClockOnce.class.getDeclaredConstructors();
        check.due("constructors", made.length, 1);
        check.holds("the constructor is public, of nothing", Modifier.isPublic(made[0].getModifiers()) && made[0].getParameterCount() == 0);
        check.holds("the class is public and final", (ClockOnce.class.getModifiers() & Modifier.FINAL) != 0 && Modifier.isPublic(ClockOnce.class.getModifiers()));
    }

    private void classesInside() {
        check.holds("twelve classes at most", classes.size() <= 12);
        for (Class<?> c : classes) {
            check.holds(c.getName() + " is static", c == ClockOnce.class || Modifier.isStatic(c.getModifiers()));
            int fields = 0;
            for (Field f : c.getDeclaredFields()) {
                fields += Modifier.isStatic(f.getModifiers()) ? 0 : 1;
            }
            check.holds(c.getName() + " has twenty fields at most", fields <= 20);
        }
    }

    private void staticFields() {
        for (Class<?> c : classes) {
            for (Field f : c.getDeclaredFields()) {
                if (Modifier.isStatic(f.getModifiers())) {
                    check.holds(f + " is final", Modifier.isFinal(f.getModifiers()));
                }
            }
        }
    }

    private void methods() {
        Set<String> open = new TreeSet<>();
        for (Method m : ClockOnce.class.getDeclaredMethods()) {
            if (Modifier.isPublic(m.getModifiers())) {
                open.add(m.getName());
            }
        }
        for (Class<?> c : classes) {
            for (Method m : c.getDeclaredMethods()) {
                check.holds(m + " has seven parameters at most", m.getParameterCount() <= 7);
                boolean isOfFace = c == ClockOnce.class && Modifier.isPublic(m.getModifiers());
                check.holds(m + " bears no name of the face", isOfFace || !open.contains(m.getName()));
            }
        }
        int begun = -1;
        String[] lines = source.split("\n");
        for (int i = 0; i < lines.length; i++) {
            if (lines[i].matches("( {4}| {8})[a-zA-Z].*\\) \\{")) {
                begun = i;
            } else if (begun >= 0 && lines[i].matches("( {4}| {8})\\}") && lines[i].indexOf('}') == lines[begun].replaceAll("\\S.*", "").length()) {
                check.holds("line " + (begun + 1) + ": sixty lines at most", i - begun < 60);
                begun = -1;
            }
        }
    }

    private void words() {
        String code = source.replaceAll("(?s)/\\*.*?\\*/", "").replaceAll("//[^\n]*", "");
        for (String word : FORBIDDEN) {
            Matcher m = Pattern.compile(word).matcher(code);
            check.holds("no " + word, !m.find());
        }
        for (int i = 0; i < source.length(); i++) {
            if (source.charAt(i) > 126) {
                check.holds("signs up to 126 alone, place " + i, false);
            }
        }
    }

    private void nothingMadeByCalls() {
        for (String line : source.split("\n")) {
            if (line.contains("new ") && !line.trim().startsWith("//")) {
                boolean isField = line.matches(" {4}( {4})?(private )?(final )?\\w+(\\[\\])? \\w+ = new .*;");
                check.holds("made by a field or the constructor: " + line.trim(), isField || line.contains("slots[slot] = new Life();"));
            }
        }
    }
}
