import java.net.URL;
import java.net.URLClassLoader;
import java.nio.charset.StandardCharsets;
import java.nio.file.Files;
import java.nio.file.Path;
import java.util.regex.Matcher;
import java.util.regex.Pattern;
import javax.tools.ToolProvider;

/** Compiles the examples of README.md, in their order, into one run, and holds each call to the answer told there. */
public final class ReadmeTest {
    private static final Pattern BLOCK = Pattern.compile("(?ms)^```java\n(.*?)^```");
    private static final Pattern CALL = Pattern.compile("(x\\.(\\w+)\\([^;]*\\)); +// = (-?\\w+)");
    private static int wrong;
    private static int answers;

    private ReadmeTest() {
    }

    /** What the compiled examples call. */
    public static void due(String call, long got, long want) {
        answers++;
        if (got != want) {
            wrong++;
            System.out.println("README.md: " + call + " answered " + got + ", told is " + want);
        }
    }

    private static String runOf(String readme) {
        StringBuilder all = new StringBuilder("public final class ReadmeRun {\n");
        for (String constant : new String[] {"BAD", "FULL", "FINDING", "STATE", "SPENT", "NONE"}) {
            all.append("static final int ").append(constant).append(" = HeavyFiles.").append(constant).append(";\n");
        }
        all.append("public static void main(String[] args) {\n");
        Matcher block = BLOCK.matcher(readme);
        while (block.find()) {
            for (String line : block.group(1).split("\n")) {
                Matcher call = CALL.matcher(line);
                all.append(call.find() ? "ReadmeTest.due(\"" + call.group(2) + " (answer " + (answers++) + ")\", "
                    + call.group(1) + ", " + call.group(3) + ");" : line).append("\n");
            }
        }
        return all.append("}\n}\n").toString();
    }

    private static void remove(Path directory) throws Exception {
        for (String name : new String[] {"ReadmeRun.java", "ReadmeRun.class"}) {
            Files.deleteIfExists(directory.resolve(name));
        }
        Files.deleteIfExists(directory);
    }

    public static void main(String[] args) throws Exception {
        String source = runOf(Files.readString(Path.of("README.md"), StandardCharsets.UTF_8));
        int told = answers;
        answers = 0;
        Path directory = Files.createTempDirectory("readme");
        Path file = directory.resolve("ReadmeRun.java");
        Files.writeString(file, source);
        int answer = ToolProvider.getSystemJavaCompiler().run(null, null, null, "-cp",
            System.getProperty("java.class.path"), "-d", directory.toString(), file.toString());
        if (answer == 0) {
            try (URLClassLoader loader = new URLClassLoader(new URL[] {directory.toUri().toURL()})) {
                loader.loadClass("ReadmeRun").getMethod("main", String[].class).invoke(null, (Object) new String[0]);
            }
        }
        remove(directory);
        System.out.println(answers + " answers of README.md, " + wrong + " not as told");
        if (answer != 0 || wrong != 0 || answers < 30 || answers != told) {
            System.exit(1);
        }
    }
}
