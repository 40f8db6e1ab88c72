import java.io.IOException;
import java.nio.file.Files;
import java.nio.file.Path;
import java.util.List;
import java.util.regex.Matcher;
import java.util.regex.Pattern;
import java.util.stream.Stream;
import javax.tools.JavaCompiler;
import javax.tools.ToolProvider;

/**
 * README.md's example is compiled and run: each call with a number or a constant's name behind its "//" must answer
 * that. It also looks whether README.md names every test.
 */
public final class ReadmeTest {
    private static final Due DUE = new Due("ReadmeTest");
    private static final Pattern CALL =
            Pattern.compile("(\\s*)(int \\w+ = )?(setter\\.\\w+\\(.*\\)); +// (-?\\d+|[A-Z]+)(:.*)?");

    public static void main(String[] args) throws Exception {
        List<String> readme = Files.readAllLines(Path.of("README.md"));
        runExample(readme);
        lookForTests(String.join("\n", readme));
        DUE.end();
    }

    /** The example calls this, from a class of its own. */
    public static int answered(String call, int got, int want) {
        DUE.is(call, got, want);
        return got;
    }

    private static void runExample(List<String> readme) throws Exception {
        Path folder = Files.createTempDirectory("readme");
        Path source = folder.resolve("Example.java");
        Files.writeString(source, program(readme));
        String path = System.getProperty("java.class.path");
        JavaCompiler compiler = ToolProvider.getSystemJavaCompiler();
        int compiled = compiler.run(null, null, null, "-cp", path, "-d", Path.of(path).toString(), source.toString());
        DUE.is("compiling the example", compiled, 0);
        Files.delete(source);
        Files.delete(folder);
        if (compiled == 0) {
            Class.forName("Example").getMethod("run").invoke(null);
        }
    }

    private static String program(List<String> readme) {
        StringBuilder program = new StringBuilder("public class Example {\npublic static void run() {\n");
        boolean inside = false;
        int asked = 0;
        for (String line : readme) {
            if (line.startsWith("```")) {
                inside = line.equals("```java");
            } else if (inside) {
                Matcher call = CALL.matcher(line);
                asked += call.matches() ? 1 : 0;
                program.append(call.matches() ? asking(call) : line).append('\n');
            }
        }
        DUE.is("README.md has an example", asked > 0 ? 1 : 0, 1);
        return program.append("}\n}\n").toString();
    }

    private static String asking(Matcher call) {
        String kept = call.group(2) == null ? "" : call.group(2);
        String want = call.group(4);
        String due = Character.isLetter(want.charAt(0)) ? "JoinSetter." + want : want;
        return kept + "ReadmeTest.answered(\"" + call.group(3) + "\", " + call.group(3) + ", " + due + ");";
    }

    private static void lookForTests(String readme) throws IOException {
        try (Stream<Path> files = Files.list(Path.of("src/test/java"))) {
            for (Path file : files.toList()) {
                String name = file.getFileName().toString().replace(".java", "");
                if (name.endsWith("Test")) {
                    DUE.is("README.md names " + name, readme.contains("`" + name + "`") ? 1 : 0, 1);
                }
            }
        }
    }
}
