import java.io.IOException;
import java.lang.invoke.MethodHandles;
import java.lang.reflect.Method;
import java.lang.reflect.Modifier;
import java.nio.file.Files;
import java.nio.file.Path;
import java.util.ArrayList;
import java.util.List;
import java.util.Set;
import java.util.TreeSet;
import java.util.regex.Matcher;
import java.util.regex.Pattern;
import javax.tools.JavaCompiler;
import javax.tools.ToolProvider;

/** README.md as it stands: its examples compile and answer as it says, and its table and its list of tests are right. */
public final class ReadmeTest extends ByHand {
    private static final Path README = Path.of("README.md"), TESTS = Path.of("src/test/java");
    private static final Pattern EXAMPLE = Pattern.compile("(x\\.(\\w+)\\(.*\\));\\s*// ([-\\w]+(?: \\+ \\w+)?)(?:: .*)?");
    private static final Pattern ROW = Pattern.compile("\\| `([A-Z]+)` \\| (-\\d+) \\| .*");
    private static final Pattern TEST = Pattern.compile("- `src/test/java/(\\w+Test\\.java)`: .*");
    private static final Set<String> CONSTANTS = Set.of("UNKNOWN", "OUTSIDE", "STATE", "FULL", "NO", "NONE", "GONE");

    private final List<String> lines = new ArrayList<>();
    private final List<String> examples = new ArrayList<>();
    private final Set<String> methods = new TreeSet<>();
    private final Set<String> answers = new TreeSet<>();

    public static void main(String[] args) {
        ReadmeTest readme = new ReadmeTest();
        Checks.check("README.md: its examples answer as it says", readme::runExamples);
        Checks.check("README.md: each call and each refusal has an example", readme::allShown);
        Checks.check("README.md: its table of constants", readme::table);
        Checks.check("README.md: its list of tests", readme::tests);
        Checks.end();
    }

    private ReadmeTest() {
        try {
            lines.addAll(Files.readAllLines(README));
        } catch (IOException unread) {
            Checks.wrong("it can not be read: " + unread);
        }
    }

    private void runExamples() {
        boolean isExample = false;
        for (int i = 0; i < lines.size(); i++) {
            String line = lines.get(i);
            if (line.equals("```java")) {
                isExample = true;
                examples.add("{");
            } else if (isExample && line.equals("```")) {
                isExample = false;
                examples.add("}");
            } else if (isExample) {
                examples.add(checked(line, i + 1));
            }
        }
        try {
            compiled().getMethod("run").invoke(null);
        } catch (IOException | ReflectiveOperationException not) {
            Checks.wrong("the examples do not run: " + not + ", " + not.getCause());
        }
    }

    /** A call with an answer behind it becomes a check of that answer; all else stays as it is. */
    private String checked(String line, int number) {
        Matcher example = EXAMPLE.matcher(line.strip());
        if (!example.matches()) {
            if (line.matches("x\\..*")) {
                Checks.wrong("line " + number + " tells no answer: " + line);
            }
            return line;
        }
        methods.add(example.group(2));
        answers.addAll(List.of(example.group(3).split(" \\+ ")));
        String call = "README.md, line " + number + ": " + example.group(1).replace("\"", "\\\"");
        return "due(\"" + call + "\", " + example.group(3) + ", " + example.group(1) + ");";
    }

    private Class<?> compiled() throws IOException, IllegalAccessException {
        String source = "public final class ReadmeExamples extends ByHand {\npublic static void run() {\n"
                + String.join("\n", examples) + "\n}\n}\n";
        Path folder = Files.createTempDirectory("readme");
        Path file = folder.resolve("ReadmeExamples.java");
        Path made = folder.resolve("ReadmeExamples.class");
        try {
            Files.writeString(file, source);
            JavaCompiler compiler = ToolProvider.getSystemJavaCompiler();
            compiler.run(null, System.out, System.out,
                    "-cp", System.getProperty("java.class.path"), "-d", folder.toString(), file.toString());
            return MethodHandles.lookup().defineClass(Files.readAllBytes(made));
        } finally {
            Files.deleteIfExists(file);
            Files.deleteIfExists(made);
            Files.deleteIfExists(folder);
        }
    }

    private void allShown() {
        for (Method method : VeilNations.class.getDeclaredMethods()) {
            if (Modifier.isPublic(method.getModifiers()) && !methods.contains(method.getName())) {
                Checks.wrong("no example of " + method.getName());
            }
        }
        for (String constant : CONSTANTS) {
            if (!answers.contains(constant)) {
                Checks.wrong("no example of " + constant);
            }
        }
    }

    private void table() {
        Set<String> told = new TreeSet<>();
        for (String line : lines) {
            Matcher row = ROW.matcher(line);
            if (row.matches()) {
                told.add(row.group(1));
                due(row.group(1), valueOf(row.group(1)), Long.parseLong(row.group(2)));
            }
        }
        if (!told.equals(new TreeSet<>(CONSTANTS))) {
            Checks.wrong("the table tells of " + told);
        }
    }

    private static long valueOf(String constant) {
        try {
            return VeilNations.class.getField(constant).getLong(null);
        } catch (ReflectiveOperationException none) {
            Checks.wrong("there is no " + constant);
            return 0;
        }
    }

    private void tests() {
        Set<String> told = new TreeSet<>();
        for (String line : lines) {
            Matcher test = TEST.matcher(line);
            if (test.matches()) {
                told.add(test.group(1));
            }
        }
        Set<String> there = new TreeSet<>();
        try (var files = Files.list(TESTS)) {
            files.map(file -> file.getFileName().toString()).filter(name -> name.endsWith("Test.java")).forEach(there::add);
        } catch (IOException unread) {
            Checks.wrong("the tests can not be listed: " + unread);
        }
        if (!told.equals(there)) {
            Checks.wrong("told are " + told + ", there are " + there);
        }
    }
}
