import java.io.IOException;
import java.lang.reflect.InvocationTargetException;
import java.lang.reflect.Method;
import java.lang.reflect.Modifier;
import java.nio.charset.StandardCharsets;
import java.nio.file.Files;
import java.nio.file.Path;
import java.util.ArrayList;
import java.util.Arrays;
import java.util.List;
import java.util.TreeSet;
import java.util.regex.Matcher;
import java.util.regex.Pattern;

/**
 * Makes the run of calls that README.md shows and holds the answers against those that README.md
 * names. It reads the page itself, so that neither the page nor the class can change alone. It is
 * run in the project's directory.
 */
public final class StyleCourtReadme {
    private static final String FIRST_LINE = "StyleCourt court = new StyleCourt();";
    private static final Pattern CALL = Pattern.compile("court\\.(\\w+)\\(([^)]*)\\);\\s+// (.+)");
    /** What is answered, and the bytes between bars if there are any. */
    private static final Pattern ANSWER = Pattern.compile("(throws \\w+|-?\\d+|0x[0-9a-f]{16}L)(?: \\|(.*)\\|)?");

    private static int wrong = 0;
    private static final TreeSet<String> called = new TreeSet<>();

    public static void main(String[] args) throws Exception {
        Path page = Path.of("README.md");
        if (!Files.isReadable(page)) {
            complain("there is no README.md in " + Path.of("").toAbsolutePath());
        } else {
            List<String> lines = Files.readAllLines(page, StandardCharsets.UTF_8);
            makeRun(runOf(lines));
            everyMethodIsThere(lines);
            testsAreTold(lines);
        }
        System.out.println(wrong == 0 ? "README.md says what is so" : wrong + " things of README.md are not so");
        if (wrong != 0) {
            System.exit(1);
        }
    }

    private static List<String> runOf(List<String> lines) {
        List<String> run = new ArrayList<>();
        boolean inside = false;
        int blocks = 0;
        for (String line : lines) {
            if (line.equals("```java")) {
                inside = true;
                blocks++;
            } else if (line.startsWith("```")) {
                inside = false;
            } else if (inside && !line.isBlank() && !line.startsWith("// ")) {
                run.add(line);
            }
        }
        if (blocks != 1) {
            complain("one run of calls is due, there are " + blocks);
        }
        return run;
    }

    private static void makeRun(List<String> run) throws Exception {
        if (run.isEmpty() || !run.get(0).equals(FIRST_LINE)) {
            complain("the run does not begin with " + FIRST_LINE);
            return;
        }
        StyleCourt court = new StyleCourt();
        for (String line : run.subList(1, run.size())) {
            Matcher call = CALL.matcher(line);
            Matcher answer = ANSWER.matcher(call.matches() ? call.group(3) : "");
            if (!answer.matches()) {
                complain("no call with its answer: " + line);
                continue;
            }
            called.add(call.group(1));
            due(line, answer.group(1), answered(court, call.group(1), numbers(call.group(2))));
            if (answer.group(2) != null) {
                due(line + " (between the bars)", answer.group(2), spelt(call.group(2), answer.group(1)));
            }
        }
    }

    private static Object[] numbers(String written) {
        if (written.isEmpty()) {
            return new Object[0];
        }
        String[] parts = written.split(", ");
        Object[] numbers = new Object[parts.length];
        for (int i = 0; i < parts.length; i++) {
            numbers[i] = parts[i].startsWith("0x") ? Integer.parseUnsignedInt(parts[i].substring(2), 16)
                    : Integer.parseInt(parts[i]);
        }
        return numbers;
    }

    /** As README.md writes it: a word in hexadecimal digits, an exception by its name. */
    private static String answered(StyleCourt court, String name, Object[] numbers) throws Exception {
        Class<?>[] types = new Class<?>[numbers.length];
        Arrays.fill(types, int.class);
        Method method;
        try {
            method = StyleCourt.class.getMethod(name, types);
        } catch (NoSuchMethodException none) {
            return "no such method";
        }
        try {
            Object answer = method.invoke(court, numbers);
            return answer instanceof Long ? String.format("0x%016xL", answer) : answer.toString();
        } catch (InvocationTargetException thrown) {
            return "throws " + thrown.getCause().getClass().getSimpleName();
        }
    }

    /** The bytes of all words in hexadecimal digits, without the zeros at the end. */
    private static String spelt(String written, String answer) {
        StringBuilder digits = new StringBuilder();
        if (answer.startsWith("0x")) {
            digits.append(answer, 2, 18);
        } else {
            for (Object number : numbers(written)) {
                digits.append(String.format("%08x", number));
            }
        }
        StringBuilder bytes = new StringBuilder();
        for (int i = 0; i < digits.length(); i += 2) {
            bytes.append((char) Integer.parseInt(digits.substring(i, i + 2), 16));
        }
        return bytes.toString().replaceAll("\0+$", "");
    }

    /** Each method of the face has a row that says what it is for, and a call in the run. */
    private static void everyMethodIsThere(List<String> lines) {
        for (Method method : StyleCourt.class.getDeclaredMethods()) {
            if (!Modifier.isPublic(method.getModifiers())) {
                continue;
            }
            due("calls of " + method.getName() + " in the run", true, called.contains(method.getName()));
            int rows = 0;
            for (String line : lines) {
                if (line.startsWith("| `" + method.getName() + "(")) {
                    rows++;
                    int commas = line.substring(0, line.indexOf(')')).replaceAll("[^,]", "").length();
                    boolean none = line.contains("()`");
                    due("numbers in the row of " + method.getName(), method.getParameterCount(), none ? 0 : commas + 1);
                }
            }
            due("rows of " + method.getName(), 1, rows);
        }
    }

    private static void testsAreTold(List<String> lines) throws IOException {
        String page = String.join("\n", lines);
        due("the page tells of .ci/run", true, page.contains("```sh\n.ci/run\n```"));
        try (var tests = Files.newDirectoryStream(Path.of("src/test/java"), "*.java")) {
            for (Path test : tests) {
                String name = test.getFileName().toString().replace(".java", "");
                due("the page tells of the test " + name, true, page.contains("- `" + name + "`:"));
            }
        }
    }

    private static void due(String what, Object due, Object got) {
        if (!due.equals(got)) {
            complain(what + ": due is " + due + ", it is " + got);
        }
    }

    private static void complain(String what) {
        wrong++;
        System.out.println(what);
    }
}
