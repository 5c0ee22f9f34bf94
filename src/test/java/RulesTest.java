import java.io.IOException;
import java.lang.management.ManagementFactory;
import java.lang.reflect.Constructor;
import java.lang.reflect.Field;
import java.lang.reflect.Method;
import java.lang.reflect.Modifier;
import java.nio.file.Files;
import java.nio.file.Path;
import java.util.ArrayList;
import java.util.Arrays;
import java.util.List;
import java.util.regex.Matcher;
import java.util.regex.Pattern;
import java.util.stream.Collectors;

/** The public face as the document has it, the rules of the language that can be looked up, and what calls make. */
public final class RulesTest {
    private static final Path SOURCE = Path.of("src/main/java/SampleBench.java");
    private static final Path DOCUMENT = Path.of("../shared/DOC.md");

    private static String faceOf(Class<?> type, Class<?>[] parameters, Class<?>[] exceptions) {
        String takes = Arrays.stream(parameters).map(Class::getSimpleName).collect(Collectors.joining(", "));
        String throwing = Arrays.stream(exceptions).map(Class::getSimpleName).collect(Collectors.joining(", "));
        String of = type == null ? "" : type.getSimpleName() + " ";
        return of + "(" + takes + ")" + (throwing.isEmpty() ? "" : " throws " + throwing);
    }

    private static void face() throws IOException {
        List<String> due = new ArrayList<>();
        String text = Files.readString(DOCUMENT);
        String face = text.substring(text.indexOf("```java"), text.indexOf("## Description"));
        Matcher matcher = Pattern.compile("public (\\w+ )?(\\w+)\\((.*?)\\)( throws [^;]*)?;").matcher(face);
        while (matcher.find()) {
            String takes = Arrays.stream(matcher.group(3).split(", ")).map(p -> p.split(" ")[0])
                    .collect(Collectors.joining(", "));
            String throwing = matcher.group(4) == null ? "" : matcher.group(4);
            String of = matcher.group(1) == null ? "" : matcher.group(1);
            due.add(matcher.group(2) + " " + of + "(" + takes + ")" + throwing);
        }
        List<String> got = new ArrayList<>();
        for (Constructor<?> c : SampleBench.class.getDeclaredConstructors()) {
            got.add("SampleBench " + faceOf(null, c.getParameterTypes(), c.getExceptionTypes()));
        }
        for (Method method : SampleBench.class.getDeclaredMethods()) {
            if (!Modifier.isPrivate(method.getModifiers())) {
                got.add(method.getName() + " "
                        + faceOf(method.getReturnType(), method.getParameterTypes(), method.getExceptionTypes()));
                Check.same(method.getName() + " is public", Modifier.isPublic(method.getModifiers()), true);
            }
        }
        due.sort(null);
        got.sort(null);
        Check.same("the face", got, due);
        Check.same("the number of methods", due.size(), 33);
        Check.same("the class is final", Modifier.isFinal(SampleBench.class.getModifiers()), true);
    }

    private static void members() {
        List<String> names = Arrays.stream(SampleBench.class.getDeclaredMethods())
                .filter(m -> Modifier.isPublic(m.getModifiers())).map(Method::getName).collect(Collectors.toList());
        List<Class<?>> all = new ArrayList<>(Arrays.asList(SampleBench.class.getDeclaredClasses()));
        all.add(SampleBench.class);
        for (Class<?> type : all) {
            int fields = 0;
            for (Field field : type.getDeclaredFields()) {
                int is = field.getModifiers();
                Check.same(type + " " + field.getName() + " is private", Modifier.isPrivate(is), true);
                Check.same(field + " is final if static", !Modifier.isStatic(is) || Modifier.isFinal(is), true);
                fields += Modifier.isStatic(is) ? 0 : 1;
            }
            Check.same(type + " has at most 20 fields", fields <= 20, true);
            for (Method method : type.getDeclaredMethods()) {
                boolean ofFace = type == SampleBench.class && Modifier.isPublic(method.getModifiers());
                Check.same(method + " has a name of its own", ofFace || !names.contains(method.getName()), true);
                Check.same(method + " has at most 7 parameters", method.getParameterCount() <= 7, true);
            }
        }
        Check.same("the number of classes", all.size() <= 12, true);
    }

    // Texts, characters and comments are taken out, so that only code is looked at.
    private static String code() throws IOException {
        String code = Files.readString(SOURCE);
        code = code.replaceAll("(?s)/\\*.*?\\*/", "").replaceAll("//[^\n]*", "");
        return code.replaceAll("\"[^\"\n]*\"", "\"\"").replaceAll("'.'", "' '");
    }

    private static void words() throws IOException {
        String code = code();
        String[] banned = {"catch", "finally", "synchronized", "assert", "->", "::", "protected", "package",
            "native", "volatile", "transient", "strictfp", "equals", "hashCode", "toString", "Exact", "instanceof",
            "Object", "Double", "Float", "Long", "Character", "Boolean", "while", "@"};
        for (String word : banned) {
            Check.same("the code has no " + word, code.contains(word), false);
        }
        List<String> imports = Pattern.compile("import ([^;]*);").matcher(code).results().map(r -> r.group(1))
                .collect(Collectors.toList());
        Check.same("imports", imports, List.of("java.util.NoSuchElementException"));
        List<String> library = Pattern.compile("\\b(Math|System|Integer|String|Arrays)\\.(\\w+)").matcher(code)
                .results().map(r -> r.group()).distinct().sorted().collect(Collectors.toList());
        Check.same("the library", library, List.of("Integer.MAX_VALUE", "Integer.MIN_VALUE", "Math.floorDiv",
                "Math.max", "Math.min", "System.arraycopy"));
        Matcher made = Pattern.compile("new (\\w+)").matcher(code);
        List<String> allowed = List.of("Summary", "History", "Sample", "Letters", "Parser", "int", "long", "char",
                "IllegalStateException", "IllegalArgumentException", "IndexOutOfBoundsException",
                "ArithmeticException", "UnsupportedOperationException", "NoSuchElementException");
        while (made.find()) {
            Check.same("new " + made.group(1), allowed.contains(made.group(1)), true);
        }
        methodsAreShort(code);
    }

    private static void methodsAreShort(String code) {
        int start = 0;
        String[] lines = code.split("\n");
        for (int i = 0; i < lines.length; i++) {
            if (lines[i].matches(" {4,8}(public|private|static|[a-z]+ |[A-Z]\\w+ ).*[({]$") && lines[i].contains("(")) {
                start = i;
            }
            if (lines[i].matches(" {4,8}\\}")) {
                Check.same("the method at line " + start + " is short", i - start <= 60, true);
            }
        }
    }

    /** Apart from exceptions, no call of a method makes an object: all rows are made with the bench. */
    private static void room() {
        SampleBench bench = Benches.eight(1, 12);
        bench.copy(0, 1);
        com.sun.management.ThreadMXBean threads =
                (com.sun.management.ThreadMXBean) ManagementFactory.getThreadMXBean();
        long thread = Thread.currentThread().getId();
        allCalls(bench);
        allCalls(bench);
        long before = threads.getThreadAllocatedBytes(thread);
        allCalls(bench);
        long made = threads.getThreadAllocatedBytes(thread) - before;
        long start = threads.getThreadAllocatedBytes(thread);
        SampleBench another = new SampleBench();
        long ofBench = threads.getThreadAllocatedBytes(thread) - start;
        Check.same("another bench", another.save(), 0);
        Check.same("bytes made by calls: " + made, made < 2000, true);
        Check.same("bytes of a bench: " + ofBench, ofBench < 60000, true);
    }

    private static void allCalls(SampleBench bench) {
        bench.define(2, 3, 12, 5, 40);
        bench.offerDrawn(2, 1, 60);
        bench.offer(2, 1, 1, 1, 1);
        bench.setQuota(2, 1, 1);
        bench.allocate(2, 12, true);
        bench.merge(0, 1);
        bench.copy(0, 3);
        for (int i = 0; i < 40; i++) {
            bench.kept(2, i, 5);
            bench.mix(2, i);
            bench.reason(2, i);
        }
        for (int what = 0; what < 3; what++) {
            bench.summary(2, 4 + what);
            bench.sampled(2, what, what);
            bench.stratum(2, what, 5);
            bench.estimate(2, what);
            bench.truth(2, what);
        }
        bench.needed(0, 1);
        bench.margin(0, 1);
        bench.commonKey(2);
        bench.estimateKeys(0, 3, 60, true);
        bench.quantile(2, 500);
        bench.resampled(2, 1, 1000);
        bench.distance(0, 2);
        bench.common(0, 1);
        bench.feed('0');
        bench.read(1);
        bench.write(2);
        bench.text(3);
        bench.drop(3);
        bench.undo();
        bench.save();
        bench.restore();
    }

    public static void main(String[] args) throws IOException {
        face();
        members();
        words();
        room();
        Check.end();
    }
}
