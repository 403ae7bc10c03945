import java.io.IOException;
import java.net.URL;
import java.net.URLClassLoader;
import java.nio.file.Files;
import java.nio.file.Path;
import java.util.ArrayList;
import java.util.List;
import java.util.function.Supplier;
import java.util.regex.Matcher;
import java.util.regex.Pattern;
import javax.tools.ToolProvider;

/**
 * README.md says how to use the class: its example is compiled as it stands there, and each of its
 * calls answers what is written behind it.
 */
public final class ReadmeTest extends Checks {
    private static final Pattern CODE = Pattern.compile("```java\n(.*?)```", Pattern.DOTALL);
    private static final Pattern CALL = Pattern.compile("(int \\w+ = )?(search\\.(\\w+)\\(.*\\)); +// ([^ :]+): .*");

    public static void main(String[] args) {
        runAll(ReadmeTest.class);
    }

    /** README.md: "The number, word or exception behind // is what the call answers". */
    static void exampleAnswersWhatIsWrittenBehindIt() throws Exception {
        List<String> calls = new ArrayList<>();
        List<String> answers = new ArrayList<>();
        List<String> got = compiled(sourceOf(codeOfReadme(), calls, answers)).get();
        due("answers", got.size(), answers.size());
        for (int i = 0; i < got.size(); i++) {
            due(calls.get(i), got.get(i), answers.get(i));
        }
    }

    /** README.md: the table has each call of the face, with as many arguments. */
    static void tableHasEachCall() throws IOException {
        String readme = readme();
        for (java.lang.reflect.Method method : FacetSearch.class.getDeclaredMethods()) {
            if (java.lang.reflect.Modifier.isPublic(method.getModifiers())) {
                String arguments = "\\w+, ".repeat(method.getParameterCount()).replaceAll(", $", "");
                Pattern row = Pattern.compile("^\\| `" + method.getName() + "\\(" + arguments + "\\)` ", Pattern.MULTILINE);
                due("a row of " + method.getName(), row.matcher(readme).find(), true);
            }
        }
    }

    /** README.md: the list of tests has each of them. */
    static void listHasEachTest() throws IOException {
        String readme = readme();
        try (java.util.stream.Stream<Path> tests = Files.list(Path.of("src/test/java"))) {
            tests.forEach(test -> due("a line of " + test, readme.contains("- `" + test + "`: "), true));
        }
    }

    private static String readme() throws IOException {
        return Files.readString(Path.of("README.md"));
    }

    private static List<String> codeOfReadme() throws IOException {
        List<String> code = new ArrayList<>();
        Matcher matcher = CODE.matcher(readme());
        while (matcher.find()) {
            code.add(matcher.group(1));
        }
        due("pieces of code, a method and the example", code.size(), 2);
        return code;
    }

    /** A class with the method and the example, in which each answer that is told is kept. */
    private static String sourceOf(List<String> code, List<String> calls, List<String> answers) {
        StringBuilder source = new StringBuilder("import java.util.*;\n")
                .append("public class Example implements java.util.function.Supplier<List<String>> {\n")
                .append(code.get(0)).append("public List<String> get() {\nList<String> told = new ArrayList<>();\n");
        for (String line : code.get(1).split("\n")) {
            Matcher call = CALL.matcher(line);
            if (call.matches()) {
                calls.add(call.group(2));
                answers.add(call.group(4));
                source.append(keeping(call.group(1), call.group(2), call.group(4)));
            } else {
                due("an answer behind '" + line + "'", line.contains("//"), false);
                source.append(line).append('\n');
            }
        }
        return source.append("return told;\n}\n}\n").toString();
    }

    private static String keeping(String variable, String call, String answer) {
        if (answer.startsWith("throws.")) {
            return "try { told.add(String.valueOf(" + call + ")); } catch (RuntimeException e) "
                    + "{ told.add(\"throws.\" + e.getClass().getSimpleName()); }\n";
        }
        if (variable == null) {
            return "told.add(String.valueOf(" + call + "));\n";
        }
        return variable + call + "; told.add(String.valueOf(" + variable.split(" ")[1] + "));\n";
    }

    @SuppressWarnings("unchecked")
    private static Supplier<List<String>> compiled(String source) throws Exception {
        Path directory = Files.createTempDirectory("readme");
        try {
            Path file = Files.writeString(directory.resolve("Example.java"), source);
            int exit = ToolProvider.getSystemJavaCompiler().run(null, null, null,
                    "-cp", System.getProperty("java.class.path"), "-d", directory.toString(), file.toString());
            due("exit code of the compiler", exit, 0);
            try (URLClassLoader loader = new URLClassLoader(new URL[] {directory.toUri().toURL()})) {
                return (Supplier<List<String>>) loader.loadClass("Example").getDeclaredConstructor().newInstance();
            }
        } finally {
            Files.deleteIfExists(directory.resolve("Example.java"));
            Files.deleteIfExists(directory.resolve("Example.class"));
            Files.deleteIfExists(directory);
        }
    }
}
