import java.io.IOException;
import java.lang.reflect.Method;
import java.lang.reflect.Modifier;
import java.net.URL;
import java.net.URLClassLoader;
import java.nio.file.Files;
import java.nio.file.Path;
import java.util.ArrayList;
import java.util.List;
import java.util.regex.Matcher;
import java.util.regex.Pattern;
import javax.tools.ToolProvider;

/**
 * README.md holds: its Java blocks, one behind the other, are compiled as they stand and run, each call is compared
 * with the number behind its //, and each call of the face is shown. Run in the project's folder.
 */
public final class ReadmeTest {
    private static final Pattern BLOCK = Pattern.compile("(?ms)^```java\n(.*?)^```$");
    private static final Pattern CALL = Pattern.compile("^(x\\.(\\w+)\\(.*\\)); +// (-?\\d+)(:.*)?$");
    private static final Due DUE = new Due("ReadmeTest");

    /** Called by the program that is made of the page. */
    public static void due(String call, long got, long want) {
        DUE.is(call, got, want);
    }

    public static void main(String[] args) throws Exception {
        String page = Files.readString(Path.of("README.md"));
        DUE.sentence("what it shows as an example answers as it says there");
        List<String> shown = new ArrayList<>();
        run(programOf(page, shown));
        DUE.sentence("each call of the face can be found from it");
        for (Method m : PressedPad.class.getDeclaredMethods()) {
            if (Modifier.isPublic(m.getModifiers())) {
                DUE.holds(shown.contains(m.getName()), m.getName() + " is not shown with its answer");
            }
        }
        DUE.sentence("how to run the tests");
        DUE.holds(page.contains("\n.ci/run\n") && Files.isExecutable(Path.of(".ci/run")), ".ci/run");
        testsAreNamed(page);
        DUE.end();
    }

    private static String programOf(String page, List<String> shown) {
        StringBuilder program = new StringBuilder("public final class Page { public static void run() {\n");
        Matcher block = BLOCK.matcher(page);
        while (block.find()) {
            for (String line : block.group(1).split("\n")) {
                Matcher call = CALL.matcher(line);
                if (call.matches()) {
                    shown.add(call.group(2));
                    String words = call.group(1).replace("\\", "\\\\").replace("\"", "\\\"");
                    program.append("ReadmeTest.due(\"").append(words).append("\", ").append(call.group(1)).append(", ")
                        .append(call.group(3)).append("L);\n");
                } else {
                    DUE.holds(!line.startsWith("x."), "no answer is told: " + line);
                    program.append(line).append('\n');
                }
            }
        }
        return program.append("}}\n").toString();
    }

    private static void run(String program) throws Exception {
        Path dir = Files.createTempDirectory("readme");
        Path source = Files.writeString(dir.resolve("Page.java"), program);
        String path = System.getProperty("java.class.path");
        int failed = ToolProvider.getSystemJavaCompiler()
            .run(null, null, null, "-cp", path, "-d", dir.toString(), source.toString());
        DUE.holds(failed == 0, "the page's lines are no Java");
        if (failed == 0) {
            try (URLClassLoader loader = new URLClassLoader(new URL[] {dir.toUri().toURL()})) {
                loader.loadClass("Page").getMethod("run").invoke(null);
            }
        }
        Files.deleteIfExists(dir.resolve("Page.class"));
        Files.delete(source);
        Files.delete(dir);
    }

    private static void testsAreNamed(String page) throws IOException {
        try (var files = Files.list(Path.of("src/test/java"))) {
            for (Path file : files.toList()) {
                String name = file.getFileName().toString().replace(".java", "");
                DUE.holds(page.contains("`" + name + "`"), name + " is not named");
            }
        }
    }
}
