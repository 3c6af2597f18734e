import java.io.IOException;
import java.lang.reflect.Method;
import java.lang.reflect.Modifier;
import java.net.URL;
import java.net.URLClassLoader;
import java.nio.file.Files;
import java.nio.file.Path;
import java.util.ArrayList;
import java.util.List;
import java.util.regex.Matcher;
import java.util.regex.Pattern;
import java.util.stream.Stream;
import javax.tools.ToolProvider;

/** README.md's examples are compiled and run, each answer held against the comment behind its call. */
public final class ReadmeTest {
    private static final Check CHECK = new Check("ReadmeTest");
    private static final Pattern BLOCK = Pattern.compile("```java\n(.*?)```", Pattern.DOTALL);
    /** The answer ends at a colon, behind which a comment goes on in words. */
    private static final Pattern ANSWERED = Pattern.compile("(\\S.*\\));\\s*// ([^:]+?)(: .*)?");

    public static void main(String[] args) throws Exception {
        String page = Files.readString(Path.of("README.md"));
        namesAllCalls(page);
        namesAllTests(page);
        examples(page);
        CHECK.finish();
    }

    private static void namesAllCalls(String page) {
        for (Method method : LetterDesk.class.getDeclaredMethods()) {
            if (Modifier.isPublic(method.getModifiers())) {
                String name = method.getName();
                CHECK.same("a row of its table tells " + name, page.contains("| `" + name + "("), true);
                CHECK.same("an example calls " + name, page.contains("desk." + name + "("), true);
            }
        }
    }

    private static void namesAllTests(String page) throws IOException {
        try (Stream<Path> files = Files.list(Path.of("src/test/java"))) {
            for (Path file : files.toList()) {
                String name = file.getFileName().toString().replace(".java", "");
                if (name.endsWith("Test")) {
                    CHECK.same("a row of its table tells " + name, page.contains("| `" + name + "`"), true);
                }
            }
        }
    }

    private static void examples(String page) throws Exception {
        Path room = Files.createTempDirectory("readme");
        Path source = room.resolve("Example.java");
        Files.writeString(source, exampleClass(page));
        int failed = ToolProvider.getSystemJavaCompiler().run(null, null, null,
                "-cp", System.getProperty("java.class.path"), "-d", room.toString(), source.toString());
        CHECK.same("the examples' compiling", failed, 0);
        if (failed == 0) {
            try (URLClassLoader loader = new URLClassLoader(new URL[] {room.toUri().toURL()})) {
                String[][] rows = (String[][]) loader.loadClass("Example").getMethod("run").invoke(null);
                for (String[] row : rows) {
                    CHECK.same(row[0], row[1], row[2]);
                }
                CHECK.same("examples with an answer", rows.length > 20, true);
            }
        }
        for (String made : new String[] {"Example.java", "Example.class"}) {
            Files.deleteIfExists(room.resolve(made));
        }
        Files.delete(room);
    }

    /** Blocks that begin with a method are helpers; the others are one run of statements. */
    private static String exampleClass(String page) {
        StringBuilder helpers = new StringBuilder();
        List<String> statements = new ArrayList<>();
        Matcher block = BLOCK.matcher(page);
        while (block.find()) {
            if (block.group(1).startsWith("static ")) {
                helpers.append(block.group(1));
            } else {
                block.group(1).lines().map(ReadmeTest::asked).forEach(statements::add);
            }
        }
        return "public class Example {\n" + helpers
                + "public static String[][] run() {\n"
                + "java.util.List<String[]> rows = new java.util.ArrayList<>();\n"
                + String.join("\n", statements)
                + "\nreturn rows.toArray(new String[0][]);\n}\n}\n";
    }

    private static String asked(String line) {
        Matcher answered = ANSWERED.matcher(line);
        if (!answered.matches()) {
            return line;
        }
        String call = answered.group(1);
        return "rows.add(new String[] {\"" + call.replace("\"", "\\\"") + "\", String.valueOf(" + call + "), \""
                + answered.group(2) + "\"});";
    }
}
