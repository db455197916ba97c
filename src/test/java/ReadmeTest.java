import java.io.StringWriter;
import java.lang.reflect.Method;
import java.lang.reflect.Modifier;
import java.net.URL;
import java.net.URLClassLoader;
import java.nio.file.Files;
import java.nio.file.Path;
import java.util.ArrayList;
import java.util.List;
import java.util.regex.Matcher;
import java.util.regex.Pattern;
import java.util.stream.Stream;
import javax.tools.JavaCompiler;
import javax.tools.StandardJavaFileManager;
import javax.tools.ToolProvider;

/**
 * README.md: the calls in it are compiled as they stand there, and made, and each must answer as is told behind it;
 * every call of the face must be among them, and every test in its table.
 */
public final class ReadmeTest {
    private static final Check C = new Check();
    private static final int MOST_CALLS = 512, FEWEST_CALLS = 60;
    /** A call, and what it answers: all behind the two strokes, or up to the colon ahead of why. */
    private static final Pattern CALL = Pattern.compile("(\\s*)(x\\.(\\w+)\\(.*\\));\\s*// ([^:]*)(:.*)?");
    private static final Pattern SHORT_NAME = Pattern.compile("\\b(UNKNOWN|OUTSIDE|STATE|FULL|NONE|LOST)\\b");
    private static int calls;

    public static void main(String[] args) throws Exception {
        List<String> lines = Files.readAllLines(Path.of("README.md"));
        List<String> code = codeOf(lines);
        everyCallHasAnAnswer(code);
        everyCallOfTheFaceIsThere(code);
        everyTestIsInTheTable(lines);
        makeTheCalls(code);
        C.holds("some calls are made: " + calls, calls >= FEWEST_CALLS);
        C.holds("no more calls than an object is good for: " + calls, calls <= MOST_CALLS);
        C.end();
    }

    /** For the calls of README.md, which are compiled into a class of their own. */
    public static void due(String call, long got, long want) {
        calls++;
        C.due("README.md: " + call, got, want);
    }

    /** What stands in README.md as Java, one block behind another. */
    private static List<String> codeOf(List<String> lines) {
        List<String> code = new ArrayList<>();
        boolean inside = false;
        for (String line : lines) {
            if (line.startsWith("```")) {
                inside = line.equals("```java");
            } else if (inside) {
                code.add(line);
            }
        }
        return code;
    }

    private static void everyCallHasAnAnswer(List<String> code) {
        for (String line : code) {
            boolean call = line.contains("x.");
            C.holds("a call, and what it answers: " + line, !call || CALL.matcher(line).matches());
        }
    }

    private static void everyCallOfTheFaceIsThere(List<String> code) {
        List<String> called = new ArrayList<>();
        for (String line : code) {
            Matcher call = CALL.matcher(line);
            if (call.matches()) {
                called.add(call.group(3));
            }
        }
        for (Method m : WorldIndex.class.getDeclaredMethods()) {
            boolean ofFace = Modifier.isPublic(m.getModifiers());
            C.holds("README.md has a call of " + m.getName(), !ofFace || called.contains(m.getName()));
        }
    }

    private static void everyTestIsInTheTable(List<String> lines) throws Exception {
        List<String> told = new ArrayList<>();
        for (String line : lines) {
            Matcher row = Pattern.compile("\\| `(\\w+Test)` \\|.*").matcher(line);
            if (row.matches()) {
                told.add(row.group(1));
            }
        }
        try (Stream<Path> files = Files.list(Path.of("src/test/java"))) {
            for (Path file : files.toList()) {
                String name = file.getFileName().toString().replace(".java", "");
                C.holds("README.md has a row for " + name, !name.endsWith("Test") || told.contains(name));
            }
        }
        for (String name : told) {
            C.holds("there is a " + name, Files.exists(Path.of("src/test/java", name + ".java")));
        }
    }

    private static String program(List<String> code) {
        StringBuilder made = new StringBuilder("public final class ReadmeCalls {\npublic static void run() {\n");
        for (String line : code) {
            Matcher call = CALL.matcher(line);
            if (call.matches()) {
                String want = SHORT_NAME.matcher(call.group(4)).replaceAll("WorldIndex.$1");
                made.append("ReadmeTest.due(\"").append(call.group(2).replace("\"", "\\\"")).append("\", ")
                    .append(call.group(2)).append(", ").append(want).append(");\n");
            } else {
                made.append(line).append('\n');
            }
        }
        return made.append("}\n}\n").toString();
    }

    private static void makeTheCalls(List<String> code) throws Exception {
        Path room = Files.createTempDirectory("readme");
        Path file = room.resolve("ReadmeCalls.java");
        try {
            Files.writeString(file, program(code));
            if (compiled(file, room)) {
                URL[] where = {room.toUri().toURL()};
                try (URLClassLoader loader = new URLClassLoader(where, ReadmeTest.class.getClassLoader())) {
                    loader.loadClass("ReadmeCalls").getMethod("run").invoke(null);
                }
            }
        } finally {
            Files.deleteIfExists(room.resolve("ReadmeCalls.class"));
            Files.deleteIfExists(file);
            Files.deleteIfExists(room);
        }
    }

    private static boolean compiled(Path file, Path room) throws Exception {
        JavaCompiler javac = ToolProvider.getSystemJavaCompiler();
        StringWriter said = new StringWriter();
        try (StandardJavaFileManager files = javac.getStandardFileManager(null, null, null)) {
            List<String> options = List.of("-d", room.toString(), "-cp", System.getProperty("java.class.path"));
            boolean well = javac.getTask(said, files, null, options, null, files.getJavaFileObjects(file)).call();
            C.holds("the calls of README.md compile: " + said, well);
            return well;
        }
    }
}
