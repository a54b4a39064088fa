import java.io.IOException;
import java.lang.reflect.Field;
import java.lang.reflect.Method;
import java.lang.reflect.Modifier;
import java.nio.file.DirectoryStream;
import java.nio.file.Files;
import java.nio.file.Path;
import java.util.ArrayList;
import java.util.Arrays;
import java.util.List;
import java.util.Map;
import java.util.Set;
import java.util.TreeMap;
import java.util.TreeSet;
import java.util.regex.Matcher;
import java.util.regex.Pattern;

// What README.md says of the class, read out of README.md itself, so that a change of either shows here.
public final class ReadmeTest {
    private static final String MADE = "SeatShares x = new SeatShares();";
    // A call with numbers alone and, behind it, its answer: read so strictly that what is taken here is also Java.
    private static final Pattern CALL =
        Pattern.compile("x\\.(\\w+)\\(((?:-?\\d+(?:, -?\\d+)*)?)\\); +// (-?\\d+)(?:: (.+))?");

    private static int wrong = 0;

    public static void main(String[] args) throws Exception {
        String readme = Files.readString(Path.of("README.md"));
        List<String> example = exampleOf(readme);
        theExample(example);
        theCodes(readme);
        theCalls(readme);
        theRules(readme, example);
        theTests(readme);
        System.out.println(wrong == 0 ? "README.md holds" : wrong + " faults");
        if (wrong != 0) {
            System.exit(1);
        }
    }

    private static void must(boolean holds, String what) {
        if (!holds) {
            wrong++;
            System.out.println("README.md: " + what);
        }
    }

    private static List<String> exampleOf(String readme) {
        Matcher blocks = Pattern.compile("(?s)\n```java\n(.*?)\n```\n").matcher(readme);
        if (!blocks.find()) {
            must(false, "there is no example");
            return Arrays.asList("");
        }
        List<String> lines = Arrays.asList(blocks.group(1).split("\n"));
        must(!blocks.find(), "there is more than one example, and one alone is tested");
        return lines;
    }

    private static void theExample(List<String> example) throws Exception {
        must(example.get(0).equals(MADE), "the example does not begin with " + MADE);
        must(example.size() > 1, "the example has no calls");
        SeatShares x = new SeatShares();
        for (String line : example.subList(1, example.size())) {
            Matcher call = CALL.matcher(line);
            if (!call.matches()) {
                must(false, "not a call with its answer: " + line);
                continue;
            }
            int named = Integer.parseInt(call.group(3));
            int got = answer(x, call);
            must(got == named, line + " -- answered is " + got);
            must(named >= 0 || codes().getOrDefault(firstWord(call.group(4)), 0) == named,
                "a negative answer without the name of its code: " + line);
        }
    }

    private static int answer(SeatShares x, Matcher call) throws Exception {
        String[] words = call.group(2).isEmpty() ? new String[0] : call.group(2).split(", ");
        Class<?>[] types = new Class<?>[words.length];
        Object[] numbers = new Object[words.length];
        for (int i = 0; i < words.length; i++) {
            types[i] = int.class;
            numbers[i] = Integer.valueOf(words[i]);
        }
        return (Integer) SeatShares.class.getMethod(call.group(1), types).invoke(x, numbers);
    }

    private static String firstWord(String words) {
        return words == null ? "" : words.split("\\W")[0];
    }

    private static Map<String, Integer> codes() throws IllegalAccessException {
        Map<String, Integer> codes = new TreeMap<>();
        for (Field f : SeatShares.class.getFields()) {
            codes.put(f.getName(), f.getInt(null));
        }
        return codes;
    }

    private static void theCodes(String readme) throws IllegalAccessException {
        Map<String, Integer> told = new TreeMap<>();
        Matcher rows = Pattern.compile("(?m)^\\| `([A-Z_]+)` \\| (-\\d+) \\| .+ \\|$").matcher(readme);
        while (rows.find()) {
            must(told.put(rows.group(1), Integer.valueOf(rows.group(2))) == null, "told twice: " + rows.group(1));
        }
        must(told.equals(codes()), "the codes are " + codes() + ", told are " + told);
    }

    private static void theCalls(String readme) {
        Set<String> told = new TreeSet<>();
        Matcher rows = Pattern.compile("(?m)^\\| `(\\w+)\\((.*?)\\)` \\| .+ \\|$").matcher(readme);
        while (rows.find()) {
            int arguments = rows.group(2).isEmpty() ? 0 : rows.group(2).split(", ").length;
            must(told.add(rows.group(1) + " of " + arguments), "told twice: " + rows.group(1));
        }
        Set<String> there = new TreeSet<>();
        for (Method m : SeatShares.class.getDeclaredMethods()) {
            if (Modifier.isPublic(m.getModifiers())) {
                there.add(m.getName() + " of " + m.getParameterCount());
            }
        }
        must(told.equals(there), "the calls are " + there + ", told are " + told);
    }

    // The shares of each rule where the example has just set its seats.
    private static void theRules(String readme, List<String> example) throws Exception {
        SeatShares x = startOf(example);
        List<String> told = new ArrayList<>();
        Matcher rows = Pattern.compile("(?m)^\\| (\\d) \\| .+ \\| (\\d+(?: \\d+)*) \\|$").matcher(readme);
        while (rows.find()) {
            told.add(rows.group(1) + ": " + rows.group(2));
        }
        List<String> due = new ArrayList<>();
        for (int rule = 0; rule <= 6; rule++) {
            StringBuilder shares = new StringBuilder(rule + ":");
            for (int i = 0; i < x.lists(); i++) {
                shares.append(' ').append(x.share(rule, i));
            }
            due.add(shares.toString());
        }
        must(told.equals(due), "the rules share so: " + due + ", told is " + told);
    }

    private static SeatShares startOf(List<String> example) throws Exception {
        SeatShares x = new SeatShares();
        for (String line : example) {
            Matcher call = CALL.matcher(line);
            if (call.matches()) {
                answer(x, call);
                if (call.group(1).equals("seats")) {
                    return x;
                }
            }
        }
        must(false, "the example sets no seats");
        return x;
    }

    private static void theTests(String readme) throws IOException {
        Set<String> told = new TreeSet<>();
        Matcher rows = Pattern.compile("(?m)^- `(\\w+)`: .+$").matcher(readme);
        while (rows.find()) {
            told.add(rows.group(1));
        }
        Set<String> there = new TreeSet<>();
        try (DirectoryStream<Path> files = Files.newDirectoryStream(Path.of("src/test/java"), "*.java")) {
            for (Path file : files) {
                there.add(file.getFileName().toString().replace(".java", ""));
            }
        }
        must(told.equals(there), "the tests are " + there + ", told are " + told);
        must(readme.contains("\n```sh\n.ci/run\n```\n"), "how to run the tests is not told");
    }
}
