import java.io.IOException;
import java.lang.reflect.Method;
import java.lang.reflect.Modifier;
import java.net.URL;
import java.net.URLClassLoader;
import java.nio.file.Files;
import java.nio.file.Path;
import java.util.ArrayList;
import java.util.LinkedHashSet;
import java.util.List;
import java.util.Set;
import java.util.TreeSet;
import java.util.regex.Matcher;
import java.util.regex.Pattern;
import java.util.stream.Stream;
import javax.tools.ToolProvider;

/** README.md: its examples are compiled and run, and its tables and names are compared with the class and the document. */
public final class ReadmeTest {
    private static final Due due = new Due("ReadmeTest");
    private static final Path DOCUMENT = Path.of("../shared/DOC.md");
    private static final Pattern CALL = Pattern.compile("(kites\\.\\w+\\(.*\\)); *// ([^:]+?)(: .*)?");

    public static void main(String[] args) throws IOException, ReflectiveOperationException {
        String readme = Files.readString(Path.of("README.md"));
        List<String> examples = examples(readme);
        due.holds("there are examples", examples.size() >= 4);
        run(examples);
        everyCallIsShown(String.join("\n", examples));
        constants(readme);
        calls(readme);
        tests(readme);
        due.close();
    }

    private static List<String> examples(String readme) {
        List<String> examples = new ArrayList<>();
        Matcher blocks = Pattern.compile("(?s)```java\n(.*?)```").matcher(readme);
        while (blocks.find()) {
            examples.add(blocks.group(1));
        }
        return examples;
    }

    /** Each example becomes a method of a class that keeps what is called, what is answered and what the page gives. */
    private static void run(List<String> examples) throws IOException, ReflectiveOperationException {
        StringBuilder source = new StringBuilder("public final class ReadmeExamples {\n");
        for (int i = 0; i < examples.size(); i++) {
            source.append("public static void example").append(i).append("(java.util.List<Object[]> answers) {\n");
            for (String line : examples.get(i).split("\n")) {
                source.append(asked(line)).append('\n');
            }
            source.append("}\n");
        }
        source.append("}\n");
        Path folder = Files.createTempDirectory("readme");
        try {
            Path file = Files.writeString(folder.resolve("ReadmeExamples.java"), source);
            int errors = ToolProvider.getSystemJavaCompiler().run(null, null, null, "-cp",
                    System.getProperty("java.class.path"), "-d", folder.toString(), file.toString());
            due.is("the compiler on the examples", errors, 0);
            compare(folder, examples.size());
        } finally {
            Files.deleteIfExists(folder.resolve("ReadmeExamples.java"));
            Files.deleteIfExists(folder.resolve("ReadmeExamples.class"));
            Files.delete(folder);
        }
    }

    private static String asked(String line) {
        Matcher call = CALL.matcher(line);
        if (!call.matches()) {
            due.holds("an answer stands behind '" + line + "'", !line.startsWith("kites."));
            return line;
        }
        String given = call.group(2).matches("[A-Z_]+") ? "KiteWords." + call.group(2) : call.group(2);
        return "answers.add(new Object[] {\"" + call.group(1) + "\", (long) " + call.group(1) + ", (long) " + given + "});";
    }

    private static void compare(Path folder, int examples) throws IOException, ReflectiveOperationException {
        List<Object[]> answers = new ArrayList<>();
        try (URLClassLoader loader = new URLClassLoader(new URL[] {folder.toUri().toURL()})) {
            for (int i = 0; i < examples; i++) {
                loader.loadClass("ReadmeExamples").getMethod("example" + i, List.class).invoke(null, answers);
            }
        }
        due.holds("many answers", answers.size() > 50);
        for (Object[] answer : answers) {
            due.is("on the page " + answer[0], (Long) answer[1], (Long) answer[2]);
        }
    }

    private static Set<String> namesOfTheFace() {
        Set<String> names = new TreeSet<>();
        for (Method method : KiteWords.class.getDeclaredMethods()) {
            if (Modifier.isPublic(method.getModifiers())) {
                names.add(method.getName());
            }
        }
        return names;
    }

    private static void everyCallIsShown(String examples) {
        for (String name : namesOfTheFace()) {
            due.holds("an example calls " + name, examples.contains("kites." + name + "("));
        }
    }

    private static void constants(String readme) {
        String[] names = {"UNKNOWN", "BAD_VALUE", "FULL", "NOT_POSSIBLE", "NONE"};
        int[] values = {KiteWords.UNKNOWN, KiteWords.BAD_VALUE, KiteWords.FULL, KiteWords.NOT_POSSIBLE, KiteWords.NONE};
        for (int i = 0; i < names.length; i++) {
            due.holds("the page tells what " + names[i] + " means",
                    readme.contains("\n| `" + names[i] + "` | " + values[i] + " | "));
        }
    }

    /** The table of the calls: each call once, in the order of the document, with the errors of its Returns line. */
    private static void calls(String readme) throws IOException {
        List<String> told = new ArrayList<>();
        Matcher rows = Pattern.compile("(?m)^\\| `(\\w+)\\((.*?)\\)` \\|.*\\|(.*)\\|$").matcher(readme);
        while (rows.find()) {
            told.add(rows.group(1) + "(" + rows.group(2) + "): " + errors(rows.group(3)));
        }
        due.is("calls in the table", told.size(), namesOfTheFace().size());
        if (!Files.exists(DOCUMENT)) {
            System.out.println(DOCUMENT + " is not there: the table of the calls is not compared with it");
            return;
        }
        List<String> promised = new ArrayList<>();
        Matcher promises = Pattern.compile("(?s)`int (\\w+)\\((.*?)\\)`: .*?\n(Returns .*?)\n").matcher(
                Files.readString(DOCUMENT));
        while (promises.find()) {
            String names = promises.group(2).replaceAll("(char|int|boolean) ", "");
            promised.add(promises.group(1) + "(" + names + "): " + errors(promises.group(3)));
        }
        for (int i = 0; i < Math.max(told.size(), promised.size()); i++) {
            String row = i < told.size() ? told.get(i) : "nothing";
            String promise = i < promised.size() ? promised.get(i) : "nothing";
            due.holds("the table says " + row + ", the document " + promise, row.equals(promise));
        }
    }

    private static String errors(String text) {
        // The page says "a fault" for the number that the document gives.
        Matcher names = Pattern.compile("UNKNOWN|BAD_VALUE|FULL|NOT_POSSIBLE|NONE|-1000100|a fault").matcher(text);
        Set<String> errors = new LinkedHashSet<>();
        while (names.find()) {
            errors.add(names.group().equals("a fault") ? "-1000100" : names.group());
        }
        return String.join(", ", errors);
    }

    private static void tests(String readme) throws IOException {
        due.holds("the page names the command that runs the tests", readme.contains("\n    bash .ci/run\n"));
        due.holds("the command is there", Files.isExecutable(Path.of(".ci/run")));
        try (Stream<Path> files = Files.list(Path.of("src/test/java"))) {
            for (Path file : files.toList()) {
                String name = file.getFileName().toString().replace(".java", "");
                due.holds("the page names " + name, !name.endsWith("Test") || readme.contains("`" + name + "`"));
            }
        }
    }
}
