import java.lang.reflect.Constructor;
import java.lang.reflect.Field;
import java.lang.reflect.Method;
import java.lang.reflect.Modifier;
import java.nio.file.Files;
import java.nio.file.Path;
import java.util.ArrayList;
import java.util.List;
import java.util.Map;
import java.util.Set;
import java.util.TreeMap;
import java.util.TreeSet;
import java.util.regex.Matcher;
import java.util.regex.Pattern;

/** The rules of LANGUAGE.md that can be looked up in the source and in the compiled class. */
final class LanguageTest {
    private static final Path SOURCE = Path.of("src/main/java/ClockOnce.java");
    private static final String[] FACE = {
        "int again(int)", "int ask(int,int)", "int asker(int,int)", "int by(int)", "int count(int)", "int day()",
        "int fault()", "int fewest()", "int holds(int)", "int judge(int,int)", "int keep(int)",
        "int likely(int,int,boolean)", "int see(int,int)", "int sell(int)", "int share(int,boolean)",
        "int thing(int,int)", "int toAsk()", "int town()", "int undo()", "int unsee()", "int which()", "int wipe()",
        "int wise(int,int)", "int worlds(int)", "int worth(int,boolean)", "int write(int)", "int year(int)",
        "long seed(long)"
    };
    // Most of these would also be found as identifiers; none of them is wanted as such either.
    private static final String[] FORBIDDEN = {
        "\\bthrow\\b", "\\bthrows\\b", "\\btry\\b", "\\bcatch\\b", "\\bsynchronized\\b", "\\bassert\\b", "->", "::",
        "\\bprotected\\b", "\\bimport\\b", "\\bpackage\\b", "Exact\\b", "\\bhashCode\\b", "\\btoString\\b",
        "\\bSystem\\.(?!arraycopy)", "\\bstatic\\s*\\{", "\\bdouble\\b", "\\bfloat\\b", "\\bvar\\b"
    };

    private static final Set<String> LIBRARY = Set.of("Integer.bitCount", "System.arraycopy");
    private static final Pattern LOOP =
        Pattern.compile(" *for \\(int (\\w+) = [^;]+; [^;]*\\b\\1 <=? [^;]+; \\1\\+\\+\\) \\{");
    private static final Pattern DECLARED =
        Pattern.compile("( {4}| {8})(?:(?:public|private|static) )*(?:[\\w\\[\\]]+ )?(\\w+)\\(.*\\) \\{");
    private static final int MOST_DEEP = 8;

    private final Check check = new Check("LanguageTest");
    private final String source;
    private final String code;
    private final List<Class<?>> classes = new ArrayList<>();

    private LanguageTest(String source) {
        this.source = source;
        this.code = source.replaceAll("(?s)/\\*.*?\\*/", "").replaceAll("//[^\n]*", "");
        classes.add(ClockOnce.class);
        classes.addAll(List.of(ClockOnce.class.getDeclaredClasses()));
    }

    public static void main(String[] args) throws Exception {
        LanguageTest test = new LanguageTest(Files.readString(SOURCE));
        test.face();
        test.classesInside();
        test.staticFields();
        test.methods();
        test.words();
        test.nothingMadeByCalls();
        test.library();
        test.loops();
        test.depth();
        test.check.end();
    }

    private void face() {
        Set<String> found = new TreeSet<>();
        for (Method m : ClockOnce.class.getDeclaredMethods()) {
            if (Modifier.isPrivate(m.getModifiers())) {
                continue;
            }
            List<String> types = new ArrayList<>();
            for (Class<?> type : m.getParameterTypes()) {
                types.add(type.getName());
            }
            check.holds(m.getName() + " is public", Modifier.isPublic(m.getModifiers()));
            found.add(m.getReturnType().getName() + " " + m.getName() + "(" + String.join(",", types) + ")");
        }
        check.holds("the face's methods: " + found, found.equals(new TreeSet<>(List.of(FACE))));
        Set<String> constants = new TreeSet<>();
        for (Field f : ClockOnce.class.getDeclaredFields()) {
            if (!Modifier.isPrivate(f.getModifiers())) {
                constants.add(f.getName());
            }
        }
        check.holds("the face's constants: " + constants, constants.equals(Set.of("UNKNOWN", "OUTSIDE", "STATE", "FULL", "NONE")));
        Constructor<?>[] made = ClockOnce.class.getDeclaredConstructors();
        check.due("constructors", made.length, 1);
        check.holds("the constructor is public, of nothing", Modifier.isPublic(made[0].getModifiers()) && made[0].getParameterCount() == 0);
        check.holds("the class is public and final", (ClockOnce.class.getModifiers() & Modifier.FINAL) != 0 && Modifier.isPublic(ClockOnce.class.getModifiers()));
    }

    private void classesInside() {
        check.holds("twelve classes at most", classes.size() <= 12);
        for (Class<?> c : classes) {
            check.holds(c.getName() + " is static", c == ClockOnce.class || Modifier.isStatic(c.getModifiers()));
            int fields = 0;
            for (Field f : c.getDeclaredFields()) {
                fields += Modifier.isStatic(f.getModifiers()) ? 0 : 1;
            }
            check.holds(c.getName() + " has twenty fields at most", fields <= 20);
        }
    }

    private void staticFields() {
        for (Class<?> c : classes) {
            for (Field f : c.getDeclaredFields()) {
                if (Modifier.isStatic(f.getModifiers())) {
                    check.holds(f + " is final", Modifier.isFinal(f.getModifiers()));
                }
            }
        }
    }

    private void methods() {
        Set<String> open = new TreeSet<>();
        for (Method m : ClockOnce.class.getDeclaredMethods()) {
            if (Modifier.isPublic(m.getModifiers())) {
                open.add(m.getName());
            }
        }
        for (Class<?> c : classes) {
            for (Method m : c.getDeclaredMethods()) {
                check.holds(m + " has seven parameters at most", m.getParameterCount() <= 7);
                boolean isOfFace = c == ClockOnce.class && Modifier.isPublic(m.getModifiers());
                check.holds(m + " bears no name of the face", isOfFace || !open.contains(m.getName()));
            }
        }
        int begun = -1;
        String[] lines = source.split("\n");
        for (int i = 0; i < lines.length; i++) {
            if (lines[i].matches("( {4}| {8})[a-zA-Z].*\\) \\{")) {
                begun = i;
            } else if (begun >= 0 && lines[i].matches("( {4}| {8})\\}") && lines[i].indexOf('}') == lines[begun].replaceAll("\\S.*", "").length()) {
                check.holds("line " + (begun + 1) + ": sixty lines at most", i - begun < 60);
                begun = -1;
            }
        }
    }

    private void words() {
        for (String word : FORBIDDEN) {
            Matcher m = Pattern.compile(word).matcher(code);
            check.holds("no " + word, !m.find());
        }
        for (int i = 0; i < source.length(); i++) {
            if (source.charAt(i) > 126) {
                check.holds("signs up to 126 alone, place " + i, false);
            }
        }
    }

    private void nothingMadeByCalls() {
        for (String line : source.split("\n")) {
            if (line.contains("new ") && !line.trim().startsWith("//")) {
                boolean isField = line.matches(" {4}( {4})?(private )?(final )?\\w+(\\[\\])? \\w+ = new .*;");
                check.holds("made by a field or the constructor: " + line.trim(), isField || line.contains("slots[slot] = new Life();"));
            }
        }
    }

    private void library() {
        Set<String> own = new TreeSet<>();
        for (Class<?> c : classes) {
            own.add(c.getSimpleName());
        }
        Matcher call = Pattern.compile("\\b([A-Z]\\w*[a-z]\\w*)\\.(\\w+)\\(").matcher(code);
        while (call.find()) {
            String name = call.group(1) + "." + call.group(2);
            check.holds(name + " is allowed", own.contains(call.group(1)) || LIBRARY.contains(name));
        }
    }

    /** Each loop counts one variable up to a bound, and nothing else in it sets that variable. */
    private void loops() {
        String[] lines = code.split("\n");
        for (int i = 0; i < lines.length; i++) {
            check.holds("only for: " + lines[i].trim(), !lines[i].matches(".*\\b(while|do)\\b.*"));
            if (lines[i].matches(".*\\bfor\\b.*")) {
                Matcher loop = LOOP.matcher(lines[i]);
                check.holds("counts to a bound: " + lines[i].trim(), loop.matches());
                check.holds("counts alone: " + lines[i].trim(), loop.matches() && !body(lines, i).matches(
                    "(?s).*\\b" + loop.group(1) + "( [-+*/%&|^]?= |\\+\\+|--).*"));
            }
        }
    }

    /** What stands behind a line up to the brace that closes what the line opens. */
    private static String body(String[] lines, int at) {
        String closing = lines[at].replaceAll("\\S.*", "") + "}";
        StringBuilder body = new StringBuilder();
        for (int i = at + 1; i < lines.length && !lines[i].equals(closing); i++) {
            body.append(lines[i]).append('\n');
        }
        return body.toString();
    }

    /** Methods of one name are taken as one, so the depth found is never less than the true one. */
    private void depth() {
        Map<String, String> bodies = new TreeMap<>();
        String[] lines = code.split("\n");
        for (int i = 0; i < lines.length; i++) {
            Matcher declared = DECLARED.matcher(lines[i]);
            if (declared.matches()) {
                bodies.merge(declared.group(2), body(lines, i), String::concat);
            }
        }
        for (Class<?> c : classes) {
            for (Method m : c.getDeclaredMethods()) {
                check.holds("found: " + m, bodies.containsKey(m.getName()));
            }
        }
        for (String name : bodies.keySet()) {
            check.holds(name + " goes eight deep at most", deepest(name, bodies, MOST_DEEP + 1) <= MOST_DEEP);
        }
    }

    /** A recursion, too, goes deeper than it is looked at. */
    private static int deepest(String name, Map<String, String> bodies, int most) {
        int deepest = 0;
        Matcher call = Pattern.compile("\\b(\\w+)\\(").matcher(bodies.get(name));
        while (most > 1 && call.find()) {
            if (bodies.containsKey(call.group(1))) {
                deepest = Math.max(deepest, deepest(call.group(1), bodies, most - 1));
            }
        }
        return deepest + 1;
    }
}
