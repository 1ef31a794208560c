import java.io.IOException;
import java.lang.reflect.Method;
import java.net.URL;
import java.net.URLClassLoader;
import java.nio.file.Files;
import java.nio.file.Path;
import java.util.ArrayList;
import java.util.List;
import java.util.regex.Matcher;
import java.util.regex.Pattern;
import java.util.stream.Stream;
import javax.tools.ToolProvider;

/** The calls that README.md shows answer what it says, and it names the command and the tests. */
public final class ReadmeTest {
    private static final Path PAGE = Path.of("README.md");
    private static final Path TESTS = Path.of("src", "test", "java");
    private static final Pattern CALL = Pattern.compile("(x\\.(\\w+)\\(.*\\)); +// (.*)");
    private static final Pattern ANSWER = Pattern.compile("(-?\\d+|true|false|throws NoSuchElementException)\\b.*");

    private static final Check check = new Check();

    public static void main(String[] args) throws Exception {
        List<String> lines = Files.readAllLines(PAGE);
        callsAnswerAsShown(lines);
        everyCallIsShown(lines);
        testsAreNamed(String.join("\n", lines));
        check.end();
    }

    /** Called by what is made of the page. */
    public static void due(int line, String call, long got, long due) {
        check.is("README.md, line " + line + ": " + call, got, due);
    }

    public static void due(int line, String call, boolean got, boolean due) {
        check.is("README.md, line " + line + ": " + call, got, due);
    }

    private static void callsAnswerAsShown(List<String> lines) throws Exception {
        Path dir = Files.createTempDirectory("readme");
        try {
            Path file = dir.resolve("ReadmeCalls.java");
            Files.writeString(file, program(lines));
            int fault = ToolProvider.getSystemJavaCompiler().run(null, null, null,
                    "-cp", System.getProperty("java.class.path"), "-d", dir.toString(), file.toString());
            check.is("compiling what README.md shows", fault, 0);
            if (fault == 0) {
                runCalls(dir);
            }
        } finally {
            remove(dir);
        }
    }

    private static void runCalls(Path dir) throws Exception {
        URL[] where = {dir.toUri().toURL()};
        try (URLClassLoader loader = new URLClassLoader(where, ReadmeTest.class.getClassLoader())) {
            loader.loadClass("ReadmeCalls").getMethod("calls").invoke(null);
        }
    }

    private static void remove(Path dir) throws IOException {
        try (Stream<Path> files = Files.list(dir)) {
            for (Path file : files.toList()) {
                Files.delete(file);
            }
        }
        Files.delete(dir);
    }

    /** Blocks that begin with static are members, all others are one run of calls. */
    private static String program(List<String> lines) {
        StringBuilder members = new StringBuilder();
        StringBuilder calls = new StringBuilder();
        StringBuilder into = null;
        for (int i = 0; i < lines.size(); i++) {
            String line = lines.get(i);
            if (line.startsWith("```")) {
                boolean opens = into == null && line.equals("```java");
                into = !opens ? null : lines.get(i + 1).startsWith("static") ? members : calls;
            } else if (into != null) {
                into.append(into == calls ? checked(i + 1, line) : line).append('\n');
            }
        }
        return "public final class ReadmeCalls {\n" + members + "public static void calls() {\n" + calls + "}\n}\n";
    }

    private static String checked(int number, String line) {
        Matcher call = CALL.matcher(line);
        if (!call.matches()) {
            check.is("README.md, line " + number + " is a call and its answer",
                    line.startsWith("tell(") || line.startsWith("SilentLetters x ="), true);
            return line;
        }
        Matcher answer = ANSWER.matcher(call.group(3));
        if (!answer.matches()) {
            check.is("README.md, line " + number + " tells an answer", false, true);
            return line;
        }
        String said = "ReadmeTest.due(" + number + ", \"" + call.group(1) + "\", ";
        if (!answer.group(1).startsWith("throws")) {
            return said + call.group(1) + ", " + answer.group(1) + ");";
        }
        return "try { " + call.group(1) + "; " + said + "false, true); }"
                + " catch (java.util.NoSuchElementException e) { " + said + "true, true); }";
    }

    private static void everyCallIsShown(List<String> lines) {
        List<String> shown = new ArrayList<>();
        for (String line : lines) {
            Matcher call = CALL.matcher(line);
            if (call.matches()) {
                shown.add(call.group(2));
            }
        }
        for (Method m : SilentLetters.class.getMethods()) {
            if (m.getDeclaringClass() == SilentLetters.class) {
                check.is("README.md shows a call of " + m.getName(), shown.contains(m.getName()), true);
            }
        }
    }

    /** .ci/run takes every file *Test.java: so all that have a main must be called so. */
    private static void testsAreNamed(String page) throws IOException {
        check.is("README.md names .ci/run", page.contains("\n    .ci/run\n"), true);
        try (Stream<Path> files = Files.list(TESTS)) {
            for (Path file : files.toList()) {
                String name = file.getFileName().toString().replace(".java", "");
                boolean runs = Files.readString(file).contains("public static void main(");
                check.is(name + " is a test by its name", name.endsWith("Test"), runs);
                check.is("README.md names " + name, page.contains("`" + name + "`"), true);
            }
        }
    }
}
