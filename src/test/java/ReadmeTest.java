import java.io.IOException;
import java.net.URI;
import java.net.URL;
import java.net.URLClassLoader;
import java.nio.file.Files;
import java.nio.file.Path;
import java.util.ArrayList;
import java.util.List;
import java.util.concurrent.Callable;
import java.util.function.BiConsumer;
import java.util.regex.MatchResult;
import java.util.regex.Pattern;
import java.util.stream.Collectors;
import java.util.stream.Stream;
import javax.tools.JavaFileObject;
import javax.tools.SimpleJavaFileObject;
import javax.tools.ToolProvider;

/** The README tells no lies: its examples answer as it says, and its methods are those of the document's face. */
public final class ReadmeTest {
    private static final Path README = Path.of("README.md");
    private static final Path DOCUMENT = Path.of("../shared/DOC.md");
    private static final String NAME = "ReadmeExamples";

    // What a line of an example looks like: a call, its answer, and what the answer means.
    private static final Pattern CALL = Pattern.compile("(?m)^(bench\\.\\w+\\(.*\\));\\s+// (\\S+): .+$");

    private static List<MatchResult> found(String pattern, String text) {
        return Pattern.compile(pattern).matcher(text).results().collect(Collectors.toList());
    }

    /** The examples as a class that hands each call and the answer that is due to whom it is asked by. */
    private static String programOf(List<MatchResult> examples) {
        StringBuilder program = new StringBuilder("import java.util.concurrent.Callable;\n"
                + "import java.util.function.BiConsumer;\n"
                + "public final class " + NAME + " {\n");
        StringBuilder all = new StringBuilder();
        for (int i = 0; i < examples.size(); i++) {
            program.append("static void example").append(i).append("(BiConsumer<String, Callable<Object>> due) {\n")
                    .append(CALL.matcher(examples.get(i).group(1)).replaceAll("due.accept(\"$2\", () -> $1);"))
                    .append("}\n");
            all.append("example").append(i).append("(due);\n");
        }
        return program.append("public static void all(BiConsumer<String, Callable<Object>> due) {\n").append(all)
                .append("}\n}\n").toString();
    }

    private static boolean compile(String program, Path into) {
        JavaFileObject source = new SimpleJavaFileObject(URI.create("string:///" + NAME + ".java"),
                JavaFileObject.Kind.SOURCE) {
            @Override
            public CharSequence getCharContent(boolean ignored) {
                return program;
            }
        };
        List<String> options = List.of("-d", into.toString(), "-cp", System.getProperty("java.class.path"));
        return ToolProvider.getSystemJavaCompiler().getTask(null, null, null, options, null, List.of(source)).call();
    }

    private static Object answerOf(Callable<Object> call) {
        return Check.outcome(() -> {
            try {
                return call.call();
            } catch (RuntimeException e) {
                throw e;
            } catch (Exception e) {
                return e;
            }
        });
    }

    private static void examples(String readme) throws Exception {
        List<MatchResult> examples = found("(?s)```java\n(.*?)```", readme);
        long comments = readme.lines().filter(line -> line.startsWith("bench.")).count();
        int before = Check.looked();
        Path into = Files.createTempDirectory("readme");
        Check.same("the examples compile", compile(programOf(examples), into), true);
        BiConsumer<String, Callable<Object>> due =
                (answer, call) -> Check.same("an example of README.md", answerOf(call), answer);
        try (URLClassLoader loader = new URLClassLoader(new URL[] {into.toUri().toURL()})) {
            loader.loadClass(NAME).getMethod("all", BiConsumer.class).invoke(null, due);
        } finally {
            remove(into);
        }
        Check.same("each call of an example has its answer", Check.looked() - before - 1, comments);
    }

    private static void remove(Path directory) throws IOException {
        try (Stream<Path> files = Files.list(directory)) {
            for (Path file : files.collect(Collectors.toList())) {
                Files.delete(file);
            }
        }
        Files.delete(directory);
    }

    /** The methods of the document's face: their names, what they take, and their exceptions in their order. */
    private static List<String> face() throws IOException {
        String document = Files.readString(DOCUMENT);
        String face = document.substring(document.indexOf("```java"), document.indexOf("## Description"));
        List<String> methods = new ArrayList<>();
        for (MatchResult method : found("public \\w+ (\\w+)\\((.*?)\\)(?: throws ([^;]*))?;", face)) {
            String takes = method.group(2).replaceAll("\\w+ (\\w+)", "$1");
            methods.add(method.group(1) + "(" + takes + ") throws " + method.group(3));
        }
        return methods;
    }

    private static List<String> told(String readme) {
        List<MatchResult> names = found("(?m)^\\| (\\w+) \\| `(\\w+Exception)` \\|", readme);
        Check.same("the exceptions of README.md", names.size(), 6);
        List<String> methods = new ArrayList<>();
        for (MatchResult method : found("(?s)\n- `(\\w+\\(.*?\\))`(.*?)(?=\n- |\n\n)", readme)) {
            String says = method.group(2).replace("\n ", "");
            Check.same(method.group(1) + " has an answer", says.toLowerCase().contains("answers "), true);
            String exceptions = found("Throws ([\\w, ]+)", says).get(0).group(1);
            for (MatchResult name : names) {
                exceptions = exceptions.replaceAll("\\b" + name.group(1) + "\\b", name.group(2));
            }
            methods.add(method.group(1) + " throws " + exceptions.replace("nothing", "null"));
        }
        return methods;
    }

    private static void methods(String readme) throws IOException {
        List<String> due = face();
        List<String> got = told(readme);
        Check.same("the number of methods in the face", due.size(), 32);
        due.sort(null);
        got.sort(null);
        Check.same("the methods of README.md", got, due);
    }

    private static void tests(String readme) throws IOException {
        try (Stream<Path> files = Files.list(Path.of("src/test/java"))) {
            for (Path file : files.collect(Collectors.toList())) {
                String name = file.getFileName().toString().replace(".java", "");
                Check.same("README.md tells of " + name, readme.contains("`" + name + "`"), true);
            }
        }
    }

    public static void main(String[] args) throws Exception {
        String readme = Files.readString(README);
        examples(readme);
        methods(readme);
        tests(readme);
        Check.end();
    }
}
