import java.io.IOException;
import java.lang.reflect.Field;
import java.lang.reflect.Method;
import java.lang.reflect.Modifier;
import java.net.URL;
import java.net.URLClassLoader;
import java.nio.file.Files;
import java.nio.file.Path;
import java.util.ArrayList;
import java.util.List;
import java.util.Map;
import java.util.TreeMap;
import java.util.TreeSet;
import java.util.regex.Matcher;
import java.util.regex.Pattern;
import javax.tools.ToolProvider;

/** What README.md says of calls and their answers: its examples are run, its table is compared with the document. */
public final class ReadmeTests {
    private static final Path README = Path.of("README.md");
    private static final Path DOCUMENT = Path.of("..", "shared", "DOC.md");
    private static final Pattern ANSWERED = Pattern.compile("(race\\.\\w+\\(.*\\)); +// (-?[0-9.]+|[A-Z_]+): .*");
    private static final Pattern ROW = Pattern.compile("\\| `(\\w+)\\(([^)]*)\\)` \\|.*\\|([^|]*)\\|");
    private static final Pattern PROMISE = Pattern.compile("`[a-z]+ (\\w+)\\([^`]*\\)`: .*");
    private static final Pattern ERROR = Pattern.compile("INVALID_ARGUMENT|NOT_POSSIBLE|LIMIT_REACHED|NOT_FOUND");

    private static int wrong = 0;
    private static int answers = 0;

    private ReadmeTests() {
    }

    private static void must(boolean holds, String what) {
        if (!holds) {
            wrong++;
            System.out.println("not so: " + what);
        }
    }

    /** The examples call this one. */
    public static void due(String row, double got, double want) {
        answers++;
        must(got == want, row + " answered " + got + ", README.md says " + want);
    }

    /** The text of a class with a method for each example, in which each row with an answer is looked at. */
    private static String examples(List<String> lines) {
        StringBuilder text = new StringBuilder("public final class Examples { public static void run() {\n");
        boolean inside = false;
        for (String line : lines) {
            if (line.startsWith("```")) {
                text.append(line.equals("```java") ? "{\n" : inside ? "}\n" : "");
                inside = line.equals("```java");
            } else if (inside) {
                text.append(lookedAt(line)).append('\n');
            }
        }
        return text.append("} }\n").toString();
    }

    private static String lookedAt(String line) {
        Matcher row = ANSWERED.matcher(line);
        if (!row.matches()) {
            must(!line.startsWith("race."), "each call of an example has an answer: " + line);
            return line;
        }
        String call = row.group(1);
        String answer = Character.isUpperCase(row.group(2).charAt(0)) ? "WagonLeaps." + row.group(2) : row.group(2);
        return "ReadmeTests.due(\"" + call.replace("\"", "\\\"") + "\", " + call + ", " + answer + ");";
    }

    private static void runExamples(List<String> lines) throws IOException, ReflectiveOperationException {
        Path work = Files.createTempDirectory("readme");
        Path source = work.resolve("Examples.java");
        Path compiled = work.resolve("Examples.class");
        Files.writeString(source, examples(lines));
        int failed = ToolProvider.getSystemJavaCompiler().run(null, null, null, "-d", work.toString(), "-cp",
                System.getProperty("java.class.path"), source.toString());
        must(failed == 0, "the examples compile");
        if (failed == 0) {
            try (URLClassLoader loader = new URLClassLoader(new URL[] {work.toUri().toURL()})) {
                loader.loadClass("Examples").getMethod("run").invoke(null);
            }
            must(answers >= 30, "the examples were found: " + answers + " answers");
        }
        Files.deleteIfExists(compiled);
        Files.deleteIfExists(source);
        Files.deleteIfExists(work);
    }

    /** For each call that a promise is about, the errors that its words name. */
    private static Map<String, TreeSet<String>> promisedErrors() throws IOException {
        Map<String, TreeSet<String>> errors = new TreeMap<>();
        String call = "";
        for (String line : Files.readAllLines(DOCUMENT)) {
            Matcher face = PROMISE.matcher(line);
            if (line.startsWith("## ")) {
                call = "";
            } else if (face.matches()) {
                call = face.group(1);
                errors.put(call, new TreeSet<>());
            }
            if (!call.isEmpty()) {
                errors.get(call).addAll(named(line));
                if (line.contains("the errors of drive()")) {
                    errors.get(call).addAll(errors.get("drive"));
                }
            }
        }
        return errors;
    }

    private static TreeSet<String> named(String text) {
        TreeSet<String> names = new TreeSet<>();
        Matcher error = ERROR.matcher(text);
        while (error.find()) {
            names.add(error.group());
        }
        return names;
    }

    private static void compareTable(List<String> lines) throws IOException {
        Map<String, TreeSet<String>> promised = promisedErrors();
        List<String> told = new ArrayList<>();
        for (String line : lines) {
            Matcher row = ROW.matcher(line);
            if (row.matches()) {
                String call = row.group(1);
                told.add(call + " " + (row.group(2).isEmpty() ? 0 : row.group(2).split(", ").length));
                must(named(row.group(3)).equals(promised.get(call)), "the errors of " + call + ": README.md says"
                        + row.group(3) + "the document " + promised.get(call));
            }
        }
        List<String> face = new ArrayList<>();
        for (Method method : WagonLeaps.class.getDeclaredMethods()) {
            if (Modifier.isPublic(method.getModifiers())) {
                face.add(method.getName() + " " + method.getParameterCount());
            }
        }
        told.sort(null);
        face.sort(null);
        must(told.equals(face), "the table has each call once: " + told + " for " + face);
    }

    private static void compareConstants(String text) throws IllegalAccessException {
        for (Field field : WagonLeaps.class.getFields()) {
            int value = field.getInt(null);
            String ending = value < 0 ? "\\)" : ";";
            must(Pattern.compile("`" + field.getName() + "` \\(" + value + ending).matcher(text).find(),
                    "README.md tells the number of " + field.getName());
        }
    }

    public static void main(String[] args) throws IOException, ReflectiveOperationException {
        List<String> lines = Files.readAllLines(README);
        runExamples(lines);
        compareTable(lines);
        compareConstants(String.join("\n", lines));
        System.out.println(wrong == 0 ? "README.md says what is so" : wrong + " rows of README.md are not so");
        if (wrong != 0) {
            System.exit(1);
        }
    }
}
