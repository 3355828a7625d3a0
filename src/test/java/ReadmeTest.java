import java.io.IOException;
import java.lang.reflect.Method;
import java.lang.reflect.Modifier;
import java.net.URL;
import java.net.URLClassLoader;
import java.nio.charset.StandardCharsets;
import java.nio.file.Files;
import java.nio.file.Path;
import java.util.Comparator;
import java.util.List;
import java.util.regex.Matcher;
import java.util.regex.Pattern;
import java.util.stream.Collectors;
import java.util.stream.Stream;
import javax.tools.ToolProvider;

/** What README.md says: its Java answers what stands behind it, and each call and each test is named in it. */
public final class ReadmeTest {
    private static final Pattern BLOCK = Pattern.compile("```java\n(.*?)```", Pattern.DOTALL);
    private static final Pattern ANSWER = Pattern.compile("(river\\..*\\)); *// (-?\\d+|true|false)\\b.*");
    private static final Path TESTS = Path.of("src/test/java");

    private static final Check CHECK = new Check("ReadmeTest");

    public static void main(String[] args) throws Exception {
        String readme = Files.readString(Path.of("README.md"), StandardCharsets.UTF_8);
        namesCalls(readme);
        namesTests(readme);
        runsAsItSays(readme);
        CHECK.end();
    }

    /** The Java of README.md calls this one, behind each answer. */
    public static void due(String call, Object got, Object want) {
        CHECK.due(call + " answered " + got + " in place of " + want, got.equals(want), true);
    }

    private static void namesCalls(String readme) {
        for (Method method : FarewellStones.class.getDeclaredMethods()) {
            if (!Modifier.isPublic(method.getModifiers())) continue;
            CHECK.due("name of the call " + method.getName(), readme.contains("`" + method.getName() + "`"), true);
        }
    }

    private static void namesTests(String readme) throws IOException {
        try (Stream<Path> files = Files.list(TESTS)) {
            for (Path file : files.toList()) {
                String name = file.getFileName().toString().replace(".java", "");
                if (!name.endsWith("Test")) continue;
                CHECK.due("name of the test " + name, readme.contains("`" + name + "`"), true);
            }
        }
        for (String path : List.of(".ci/run", "src/main/java/FarewellStones.java", "../shared/DOC.md",
            "../shared/LANGUAGE.md", "../shared/tests")) {
            CHECK.due("name of " + path, readme.contains(path), true);
            CHECK.due("there is " + path, Files.exists(Path.of(path)), true);
        }
    }

    private static void runsAsItSays(String readme) throws Exception {
        StringBuilder functions = new StringBuilder();
        StringBuilder lines = new StringBuilder();
        Matcher block = BLOCK.matcher(readme);
        while (block.find()) {
            if (block.group(1).startsWith("static ")) functions.append(block.group(1));
            else lines.append(block.group(1));
        }
        String asked = lines.toString().lines().map(ReadmeTest::asked).collect(Collectors.joining("\n"));
        CHECK.due("there are answers", asked.contains("ReadmeTest.due("), true);
        String source = "public final class Readme {\n" + functions
            + "public static void run() {\n" + asked + "\n}\n}\n";
        Path work = Files.createTempDirectory("readme");
        try {
            compileAndRun(work, source);
        } finally {
            remove(work);
        }
    }

    private static String asked(String line) {
        Matcher answer = ANSWER.matcher(line);
        if (!answer.matches()) return line;
        return "ReadmeTest.due(\"" + answer.group(1) + "\", " + answer.group(1) + ", " + answer.group(2) + ");";
    }

    private static void compileAndRun(Path work, String source) throws Exception {
        Path file = work.resolve("Readme.java");
        Files.writeString(file, source, StandardCharsets.UTF_8);
        int failed = ToolProvider.getSystemJavaCompiler().run(null, null, null, "-cp",
            System.getProperty("java.class.path"), "-d", work.toString(), file.toString());
        CHECK.due("exit code of javac", failed, 0);
        if (failed != 0) return;
        try (URLClassLoader loader = new URLClassLoader(new URL[] {work.toUri().toURL()})) {
            loader.loadClass("Readme").getMethod("run").invoke(null);
        }
    }

    private static void remove(Path work) throws IOException {
        try (Stream<Path> files = Files.walk(work)) {
            for (Path file : files.sorted(Comparator.reverseOrder()).toList()) Files.delete(file);
        }
    }
}
