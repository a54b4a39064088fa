import java.io.IOException;
import java.lang.reflect.Constructor;
import java.lang.reflect.Field;
import java.lang.reflect.Method;
import java.lang.reflect.Modifier;
import java.nio.file.Files;
import java.nio.file.Path;
import java.util.Arrays;
import java.util.Set;
import java.util.TreeSet;
import java.util.regex.Matcher;
import java.util.regex.Pattern;

// The public face of the document, and what of LANGUAGE.md can be read off the compiled class and its source.
public final class LanguageTest {
    private static final Set<String> FACE = new TreeSet<>(Arrays.asList(
        "list(int)", "vote(int,int)", "join(int,int)", "seats(int)", "bar(int)", "lists()", "votes()",
        "share(int,int)", "next(int)", "missing(int,int)", "spare(int,int)", "fall(int)", "outside(int)",
        "moved(int,int)", "majority(int)"));
    private static final Set<String> CONSTANTS = new TreeSet<>(Arrays.asList("BAD_ARG=-1", "FULL=-2", "NONE=-4"));
    private static final String OUTSIDE = "\\b(float|double|String|Object|Math|Integer|Long|System|Arrays|import|package"
        + "|throw|throws|try|catch|finally|synchronized|assert|instanceof|null|enum|record|interface|extends|implements"
        + "|protected)\\b|->|::|\\[\\s*\\]\\s*\\[|\"";

    private static int wrong = 0;

    public static void main(String[] args) throws Exception {
        theClass();
        theMethods();
        theFields();
        theSource();
        System.out.println(wrong == 0 ? "the class keeps to its face" : wrong + " faults");
        if (wrong != 0) {
            System.exit(1);
        }
    }

    private static void must(boolean holds, String what) {
        if (!holds) {
            wrong++;
            System.out.println("does not hold: " + what);
        }
    }

    private static void theClass() {
        must(Modifier.isPublic(SeatShares.class.getModifiers()), "rule 1: the class is public");
        must(Modifier.isFinal(SeatShares.class.getModifiers()), "rule 1: the class is final");
        must(SeatShares.class.getDeclaredClasses().length == 0, "rule 1: no nested class");
        Constructor<?>[] made = SeatShares.class.getDeclaredConstructors();
        must(made.length == 1 && made[0].getParameterCount() == 0 && Modifier.isPublic(made[0].getModifiers()),
            "rule 1: one public constructor without arguments");
    }

    private static void theMethods() {
        Set<String> open = new TreeSet<>();
        Set<String> openNames = new TreeSet<>();
        for (Method m : SeatShares.class.getDeclaredMethods()) {
            must(m.getParameterCount() <= 7, "rule 10: at most seven parameters: " + m);
            must(!m.getReturnType().isArray(), "rule 4: no array is answered: " + m);
            if (!Modifier.isPrivate(m.getModifiers())) {
                must(Modifier.isPublic(m.getModifiers()) && m.getReturnType() == int.class, "the face: " + m);
                open.add(signature(m));
                openNames.add(m.getName());
            }
        }
        must(open.equals(FACE), "the methods of the face, and no other: " + open);
        for (Method m : SeatShares.class.getDeclaredMethods()) {
            must(!Modifier.isPrivate(m.getModifiers()) || !openNames.contains(m.getName()), "rule 1: a name of its own: " + m);
        }
    }

    private static String signature(Method m) {
        StringBuilder types = new StringBuilder();
        for (Class<?> type : m.getParameterTypes()) {
            types.append(types.length() == 0 ? "" : ",").append(type.getName());
        }
        return m.getName() + "(" + types + ")";
    }

    private static void theFields() throws IllegalAccessException {
        Set<String> open = new TreeSet<>();
        int held = 0;
        for (Field f : SeatShares.class.getDeclaredFields()) {
            int modifiers = f.getModifiers();
            if (Modifier.isStatic(modifiers)) {
                must(Modifier.isFinal(modifiers) && (f.getType() == int.class || f.getType() == long.class),
                    "rule 5: a constant of int or long: " + f);
            } else {
                held++;
                must(Modifier.isPrivate(modifiers), "rule 1: private: " + f);
            }
            if (!Modifier.isPrivate(modifiers)) {
                must(Modifier.isPublic(modifiers) && Modifier.isStatic(modifiers), "rule 1: " + f);
                open.add(f.getName() + "=" + f.get(null));
            }
        }
        must(held <= 40, "rule 10: at most some forty fields");
        must(open.equals(CONSTANTS), "the constants of the face, and no other: " + open);
    }

    private static void theSource() throws IOException {
        String source = Files.readString(Path.of("src/main/java/SeatShares.java"));
        String code = source.replaceAll("(?s)/\\*.*?\\*/", "").replaceAll("//[^\n]*", "");
        Matcher outside = Pattern.compile(OUTSIDE).matcher(code);
        while (outside.find()) {
            must(false, "rules 1 to 6: not in the program: " + outside.group());
        }
        for (String line : code.split("\n")) {
            must(!line.matches(".*\\bnew\\b.*") || line.matches("    private final int\\[\\] \\w+ = new int\\[\\w+\\];"),
                "rule 4: arrays are made in a field's initialiser: " + line.trim());
            // Calls are written without a blank before the bracket, if, for and while with one.
            must(!line.matches(".*\\w\\([^()]*\\w\\(.*"),
                "rule 10: no call inside the arguments of another: " + line.trim());
        }
    }
}
