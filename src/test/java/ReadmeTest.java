import java.io.IOException;
import java.net.URL;
import java.net.URLClassLoader;
import java.nio.file.Files;
import java.nio.file.Path;
import java.nio.file.Paths;
import java.util.ArrayList;
import java.util.List;
import java.util.TreeSet;
import java.util.function.Supplier;
import java.util.regex.Matcher;
import java.util.regex.Pattern;
import javax.tools.JavaCompiler;
import javax.tools.ToolProvider;

/** README.md shows calls with their answers: its lines are compiled as they stand, and each answer is asked for. */
public final class ReadmeTest {
    private static final String NAME = "ReadmeCalls";
    private static final Pattern CALL =
        Pattern.compile("(x\\.(\\w+)\\(.*?\\)); +// (-?\\d+|NONE|VOID|true|false)(: .*)?");

    private final StringBuilder methods = new StringBuilder();
    private final StringBuilder statements = new StringBuilder();
    private final List<String> calls = new ArrayList<>();
    private final List<Long> due = new ArrayList<>();
    private final TreeSet<String> shown = new TreeSet<>();

    public static void main(String[] args) throws Exception {
        new ReadmeTest().run();
        Check.close("ReadmeTest");
    }

    private void run() throws Exception {
        readBlocks(Files.readAllLines(Paths.get("README.md")));
        for (String name : Calls.NAMES) {
            Check.due("README.md shows " + name, shown.contains(name), true);
        }
        long[] answers = answersOf(source());
        Check.due("calls in README.md", answers.length, calls.size());
        for (int k = 0; k < Math.min(answers.length, calls.size()); k++) {
            Check.due("README.md: " + calls.get(k), answers[k], due.get(k));
        }
    }

    private void readBlocks(List<String> lines) {
        boolean inBlock = false;
        boolean isMethod = false;
        for (String line : lines) {
            if (line.startsWith("```")) {
                inBlock = line.equals("```java");
                isMethod = false;
            } else if (inBlock) {
                isMethod |= line.startsWith("static ");
                if (isMethod) {
                    methods.append(line).append('\n');
                } else {
                    readStatement(line);
                }
            }
        }
    }

    private void readStatement(String line) {
        Matcher call = CALL.matcher(line);
        boolean asks = line.startsWith("x.");
        if (asks && call.matches()) {
            shown.add(call.group(2));
            calls.add(call.group(1));
            due.add(number(call.group(3)));
            statements.append("answers[").append(calls.size() - 1).append("] = number(").append(call.group(1))
                .append(");\n");
            return;
        }
        Check.due("README.md tells the answer of: " + line, asks, false);
        statements.append(line).append('\n');
    }

    private static long number(String answer) {
        switch (answer) {
            case "NONE": return LastServed.NONE;
            case "VOID": return LastServed.VOID;
            case "true": return 1;
            case "false": return 0;
            default: return Long.parseLong(answer);
        }
    }

    private String source() {
        return "public final class " + NAME + " implements java.util.function.Supplier<long[]> {\n"
            + "static long number(int answer) { return answer; }\n"
            + "static long number(boolean answer) { return answer ? 1 : 0; }\n"
            + methods
            + "public long[] get() {\nlong[] answers = new long[" + calls.size() + "];\n"
            + statements
            + "return answers;\n}\n}\n";
    }

    private static long[] answersOf(String source) throws Exception {
        Path directory = Files.createTempDirectory("readme");
        try {
            Path file = Files.write(directory.resolve(NAME + ".java"), source.getBytes("ISO-8859-1"));
            JavaCompiler compiler = ToolProvider.getSystemJavaCompiler();
            int failed = compiler.run(null, null, null, "-cp", System.getProperty("java.class.path"),
                "-d", directory.toString(), file.toString());
            Check.due("what javac answers for README.md", failed, 0);
            return failed == 0 ? run(directory) : new long[0];
        } finally {
            delete(directory);
        }
    }

    private static long[] run(Path directory) throws Exception {
        URL[] places = {directory.toUri().toURL()};
        try (URLClassLoader loader = new URLClassLoader(places, ReadmeTest.class.getClassLoader())) {
            Object made = loader.loadClass(NAME).getDeclaredConstructor().newInstance();
            return (long[]) ((Supplier<?>) made).get();
        }
    }

    private static void delete(Path directory) throws IOException {
        List<Path> files = new ArrayList<>();
        try (java.util.stream.Stream<Path> found = Files.list(directory)) {
            found.forEach(files::add);
        }
        for (Path file : files) {
            Files.delete(file);
        }
        Files.delete(directory);
    }
}
