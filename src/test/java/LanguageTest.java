import java.io.IOException;
import java.lang.reflect.Constructor;
import java.lang.reflect.Field;
import java.lang.reflect.Method;
import java.lang.reflect.Modifier;
import java.nio.file.Files;
import java.nio.file.Path;
import java.util.Arrays;
import java.util.Map;
import java.util.Set;
import java.util.TreeMap;
import java.util.TreeSet;
import java.util.regex.Matcher;
import java.util.regex.Pattern;

// The public face of the document, and what of LANGUAGE.md can be read off the compiled class and its source.
public final class LanguageTest {
    private static final Set<String> FACE = new TreeSet<>(Arrays.asList(
        "list(int)", "vote(int,int)", "join(int,int)", "seats(int)", "bar(int)", "lists()", "votes()",
        "share(int,int)", "next(int)", "missing(int,int)", "spare(int,int)", "fall(int)", "outside(int)",
        "moved(int,int)", "majority(int)"));
    private static final Set<String> CONSTANTS = new TreeSet<>(Arrays.asList("BAD_ARG=-1", "FULL=-2", "NONE=-4"));
    // While and do are in the language, but an end that can be seen is easier to look for in for loops alone.
    private static final String OUTSIDE = "\\b(float|double|String|Object|Math|Integer|Long|System|Arrays|import|package"
        + "|throw|throws|try|catch|finally|synchronized|assert|instanceof|null|enum|record|interface|extends|implements"
        + "|protected|equals|hashCode|toString|getClass|clone|wait|notify|notifyAll|finalize|super|while|do)\\b"
        + "|->|::|\\[\\s*\\]\\s*\\[|\"";

    private static int wrong = 0;

    public static void main(String[] args) throws Exception {
        theClass();
        theMethods();
        theFields();
        String code = code();
        theSource(code);
        theLoops(code);
        theCalls(bodiesOf(code));
        System.out.println(wrong == 0 ? "the class keeps to its face" : wrong + " faults");
        if (wrong != 0) {
            System.exit(1);
        }
    }

    private static void must(boolean holds, String what) {
        if (!holds) {
            wrong++;
            System.out.println("does not hold: " + what);
        }
    }

    private static void theClass() {
        must(Modifier.isPublic(SeatShares.class.getModifiers()), "rule 1: the class is public");
        must(Modifier.isFinal(SeatShares.class.getModifiers()), "rule 1: the class is final");
        must(SeatShares.class.getDeclaredClasses().length == 0, "rule 1: no nested class");
        Constructor<?>[] made = SeatShares.class.getDeclaredConstructors();
        must(made.length == 1 && made[0].getParameterCount() == 0 && Modifier.isPublic(made[0].getModifiers()),
            "rule 1: one public constructor without arguments");
    }

    private static void theMethods() {
        Set<String> open = new TreeSet<>();
        Set<String> openNames = new TreeSet<>();
        for (Method m : SeatShares.class.getDeclaredMethods()) {
            must(m.getParameterCount() <= 7, "rule 10: at most seven parameters: " + m);
            must(!m.getReturnType().isArray(), "rule 4: no array is answered: " + m);
            if (!Modifier.isPrivate(m.getModifiers())) {
                must(Modifier.isPublic(m.getModifiers()) && m.getReturnType() == int.class, "the face: " + m);
                open.add(signature(m));
                openNames.add(m.getName());
            }
        }
        must(open.equals(FACE), "the methods of the face, and no other: " + open);
        for (Method m : SeatShares.class.getDeclaredMethods()) {
            must(!Modifier.isPrivate(m.getModifiers()) || !openNames.contains(m.getName()), "rule 1: a name of its own: " + m);
        }
    }

    private static String signature(Method m) {
        StringBuilder types = new StringBuilder();
        for (Class<?> type : m.getParameterTypes()) {
            types.append(types.length() == 0 ? "" : ",").append(type.getName());
        }
        return m.getName() + "(" + types + ")";
    }

    private static void theFields() throws IllegalAccessException {
        Set<String> open = new TreeSet<>();
        int held = 0;
        for (Field f : SeatShares.class.getDeclaredFields()) {
            int modifiers = f.getModifiers();
            if (Modifier.isStatic(modifiers)) {
                must(Modifier.isFinal(modifiers) && (f.getType() == int.class || f.getType() == long.class),
                    "rule 5: a constant of int or long: " + f);
            } else {
                held++;
                must(Modifier.isPrivate(modifiers), "rule 1: private: " + f);
            }
            if (!Modifier.isPrivate(modifiers)) {
                must(Modifier.isPublic(modifiers) && Modifier.isStatic(modifiers), "rule 1: " + f);
                open.add(f.getName() + "=" + f.get(null));
            }
        }
        must(held <= 40, "rule 10: at most some forty fields");
        must(open.equals(CONSTANTS), "the constants of the face, and no other: " + open);
    }

    // The source without its comments.
    private static String code() throws IOException {
        String source = Files.readString(Path.of("src/main/java/SeatShares.java"));
        return source.replaceAll("(?s)/\\*.*?\\*/", "").replaceAll("//[^\n]*", "");
    }

    private static void theSource(String code) {
        Matcher outside = Pattern.compile(OUTSIDE).matcher(code);
        while (outside.find()) {
            must(false, "rules 1 to 6: not in the program: " + outside.group());
        }
        for (String line : code.split("\n")) {
            must(!line.matches(".*\\bnew\\b.*") || line.matches("    private final int\\[\\] \\w+ = new int\\[\\w+\\];"),
                "rule 4: arrays are made in a field's initialiser: " + line.trim());
            // Calls are written without a blank before the bracket, if, for and while with one.
            must(!line.matches(".*\\w\\([^()]*\\w\\(.*"),
                "rule 10: no call inside the arguments of another: " + line.trim());
        }
    }

    // The program has for loops alone, each with a counter that only its header changes.
    private static void theLoops(String code) {
        Matcher loops = Pattern.compile("\\bfor \\(([^\n]*)\\) \\{\n").matcher(code);
        Pattern header = Pattern.compile("int (\\w+) = [^;]+; (\\w+) (<|<=|>) [^;()]+; (\\w+)(\\+\\+|--)");
        int found = 0;
        while (loops.find()) {
            found++;
            Matcher parts = header.matcher(loops.group(1));
            boolean counts = parts.matches() && parts.group(1).equals(parts.group(2))
                && parts.group(1).equals(parts.group(4)) && parts.group(3).equals(">") == parts.group(5).equals("--");
            must(counts, "rule 8: a counter against a bound: " + loops.group(1));
            must(!counts || !changes(parts.group(1), loopBody(code, loops.end())),
                "rule 8: the counter changes in the header alone: " + loops.group(1));
        }
        int loopWords = code.split("\\bfor\\b", -1).length - 1;
        must(found == loopWords && found > 0, "rule 8: every loop has been looked at");
    }

    private static String loopBody(String code, int start) {
        int open = 1;
        int end = start;
        while (open > 0 && end < code.length()) {
            open += code.charAt(end) == '{' ? 1 : code.charAt(end) == '}' ? -1 : 0;
            end++;
        }
        return code.substring(start, end);
    }

    private static boolean changes(String name, String body) {
        String word = "\\b" + name + "\\b";
        return Pattern.compile(word + "\\s*([-+*/%&|^]|<<|>>)?=[^=]|" + word + "\\s*(\\+\\+|--)|(\\+\\+|--)\\s*" + word)
            .matcher(body).find();
    }

    // Each method's lines by its name; the methods of the program stand four blanks in and bear names of their own.
    private static Map<String, String> bodiesOf(String code) {
        Map<String, String> bodies = new TreeMap<>();
        String method = "(?ms)^    (?:public|private) \\w+ (\\w+)\\([^)]*\\) \\{\n(.*?)^    \\}$";
        Matcher methods = Pattern.compile(method).matcher(code);
        while (methods.find()) {
            must(bodies.put(methods.group(1), methods.group(2)) == null, "one method of the name " + methods.group(1));
        }
        must(bodies.size() == SeatShares.class.getDeclaredMethods().length, "rule 10: every method has been looked at");
        return bodies;
    }

    private static void theCalls(Map<String, String> bodies) {
        for (Map.Entry<String, String> method : bodies.entrySet()) {
            must(method.getValue().split("\n").length <= 60, "rule 10: some sixty lines: " + method.getKey());
            must(depth(method.getKey(), bodies, 1) <= 6, "rules 8 and 10: calls go six deep: " + method.getKey());
        }
    }

    // Recursion would go on and on: it shows as a depth above any that is allowed.
    private static int depth(String name, Map<String, String> bodies, int above) {
        int deepest = above;
        for (String called : bodies.keySet()) {
            boolean calls = Pattern.compile("\\b" + called + "\\(").matcher(bodies.get(name)).find();
            if (calls && above <= 10) {
                deepest = Math.max(deepest, depth(called, bodies, above + 1));
            }
        }
        return deepest;
    }
}
