import java.io.File;
import java.io.IOException;
import java.lang.reflect.Method;
import java.net.URI;
import java.nio.file.Files;
import java.nio.file.Path;
import java.util.ArrayList;
import java.util.List;
import java.util.regex.Matcher;
import java.util.regex.Pattern;
import java.util.stream.Stream;
import javax.tools.JavaFileObject;
import javax.tools.SimpleJavaFileObject;
import javax.tools.ToolProvider;

/** That README.md says what is so: its examples answer what stands behind them, and its tests are there. */
public final class ReadmeTest {
    private static final Pattern EXAMPLE = Pattern.compile("(?s)```java\n(.*?)```");
    private static final Pattern ANSWERED = Pattern.compile("(still\\.\\w+\\([^;]*\\));\\s*// (-?\\d+|true|false):.*");
    private static final Pattern NAMED = Pattern.compile("`(\\w*Test)?\\.(\\w+)`");

    public static void main(String[] args) throws IOException, ReflectiveOperationException {
        Due due = new Due("README.md");
        String readme = Files.readString(Path.of("README.md"));
        examples(due, readme);
        everyTestIsNamed(due, readme);
        everyNameIsATest(due, readme);
        due.finish();
    }

    /** All examples are one run of calls: each goes on where the one before ended. */
    private static void examples(Due due, String readme) throws IOException, ReflectiveOperationException {
        List<String> asked = new ArrayList<>();
        List<String> said = new ArrayList<>();
        StringBuilder body = new StringBuilder();
        Matcher example = EXAMPLE.matcher(readme);
        while (example.find()) {
            for (String line : example.group(1).split("\n")) {
                Matcher answered = ANSWERED.matcher(line);
                if (answered.matches()) {
                    asked.add(answered.group(1));
                    said.add(answered.group(2));
                    body.append("answers.add(String.valueOf(").append(answered.group(1)).append("));\n");
                } else {
                    body.append(line).append('\n');
                }
            }
        }
        List<String> answers = run(due, body.toString());
        due.is("examples have answers", asked.isEmpty(), false);
        due.is("how many were answered", answers.size(), asked.size());
        for (int i = 0; i < answers.size(); i++) {
            due.is(asked.get(i), answers.get(i), said.get(i));
        }
    }

    @SuppressWarnings("unchecked")
    private static List<String> run(Due due, String body) throws IOException, ReflectiveOperationException {
        String source = "public final class Example { public static java.util.List<String> run() {\n"
                + "java.util.List<String> answers = new java.util.ArrayList<>();\n" + body + "return answers; } }";
        JavaFileObject file = new SimpleJavaFileObject(URI.create("string:///Example.java"), JavaFileObject.Kind.SOURCE) {
            @Override
            public CharSequence getCharContent(boolean ignoreEncodingErrors) {
                return source;
            }
        };
        String classes = System.getProperty("java.class.path").split(File.pathSeparator)[0];
        boolean compiled = ToolProvider.getSystemJavaCompiler()
                .getTask(null, null, null, List.of("-cp", classes, "-d", classes), null, List.of(file)).call();
        due.is("the examples compile", compiled, true);
        return compiled ? (List<String>) Class.forName("Example").getMethod("run").invoke(null) : List.of();
    }

    private static void everyTestIsNamed(Due due, String readme) throws IOException {
        try (Stream<Path> files = Files.list(Path.of("src/test/java"))) {
            files.map(file -> file.getFileName().toString()).filter(name -> name.endsWith("Test.java")).forEach(name ->
                    due.is(name + " is named", readme.contains("| `" + name.replace(".java", "") + "` |"), true));
        }
    }

    /** A test in the table is named in full, or by its function alone behind one of the same class. */
    private static void everyNameIsATest(Due due, String readme) throws ReflectiveOperationException {
        String table = readme.substring(readme.indexOf("### The bounds"));
        String test = "";
        for (Matcher named = NAMED.matcher(table); named.find();) {
            test = named.group(1) == null ? test : named.group(1);
            String function = named.group(2);
            boolean found = Stream.of(Class.forName(test).getDeclaredMethods()).map(Method::getName)
                    .anyMatch(function::equals);
            due.is(test + "." + function + " is there", found, true);
        }
    }
}
