import java.io.IOException;
import java.lang.reflect.Method;
import java.lang.reflect.Modifier;
import java.net.URL;
import java.net.URLClassLoader;
import java.nio.file.Files;
import java.nio.file.Path;
import java.util.List;
import java.util.regex.Matcher;
import java.util.regex.Pattern;
import java.util.stream.Collectors;
import java.util.stream.Stream;
import javax.tools.ToolProvider;

/** README.md: its examples are compiled and run, and it leaves out no call and no test. */
public final class ReadmeTest {
    private static final Check CHECK = new Check("ReadmeTest");
    private static final Pattern EXAMPLE = Pattern.compile("(?s)```java\n(.*?)```");
    /** A call with the answer that is due behind it: told.of(1, 0); // 15: why. */
    private static final Pattern ASKED = Pattern.compile("(\\w+\\.\\w+\\(.*\\)); *// (-?\\d+|OddFridays\\.\\w+)(:.*)?");

    /** The examples call it. */
    public static void due(String call, long got, long want) {
        CHECK.due(call, got, want);
    }

    private static String program(String readme) {
        StringBuilder program = new StringBuilder("public class Examples { public static void run() {\n");
        Matcher example = EXAMPLE.matcher(readme);
        int asked = 0;
        while (example.find()) {
            for (String line : example.group(1).split("\n")) {
                Matcher m = ASKED.matcher(line);
                boolean asks = m.matches();
                asked += asks ? 1 : 0;
                CHECK.so("an answer is told by '" + line + "'", asks || !line.contains("//"));
                program.append(asks ? "ReadmeTest.due(\"" + m.group(1) + "\", " + m.group(1) + ", " + m.group(2) + ");"
                    : line).append('\n');
            }
        }
        CHECK.so("there are examples", asked > 0);
        return program.append("}}\n").toString();
    }

    private static void runExamples(String readme, Path folder) throws Exception {
        Path file = folder.resolve("Examples.java");
        Files.writeString(file, program(readme));
        int failed = ToolProvider.getSystemJavaCompiler().run(null, null, null, "-proc:none",
            "-cp", System.getProperty("java.class.path"), "-d", folder.toString(), file.toString());
        CHECK.due("compiling the examples", failed, 0);
        if (failed == 0) {
            try (URLClassLoader loader = new URLClassLoader(new URL[] {folder.toUri().toURL()})) {
                loader.loadClass("Examples").getMethod("run").invoke(null);
            }
        }
    }

    private static void deleteAll(Path folder) throws IOException {
        List<Path> files;
        try (Stream<Path> all = Files.list(folder)) {
            files = all.collect(Collectors.toList());
        }
        for (Path file : files) {
            Files.delete(file);
        }
        Files.delete(folder);
    }

    private static void calls(String readme) {
        for (Method m : OddFridays.class.getDeclaredMethods()) {
            if (Modifier.isPublic(m.getModifiers())) {
                CHECK.so("README.md tells of " + m.getName(), readme.contains("`" + m.getName() + "("));
            }
        }
    }

    private static void tests(String readme) throws IOException {
        try (Stream<Path> all = Files.list(Path.of("src/test/java"))) {
            all.map(file -> file.getFileName().toString()).filter(name -> name.endsWith("Test.java")).forEach(name ->
                CHECK.so("README.md tells of " + name, readme.matches("(?s).*\\b" + name.replace(".java", "") + "\\b.*")));
        }
    }

    public static void main(String[] args) throws Exception {
        String readme = Files.readString(Path.of("README.md"));
        Path folder = Files.createTempDirectory("examples");
        runExamples(readme, folder);
        deleteAll(folder);
        calls(readme);
        tests(readme);
        CHECK.end();
    }
}
