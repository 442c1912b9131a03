import java.net.URI;
import java.nio.charset.StandardCharsets;
import java.nio.file.Files;
import java.nio.file.Path;
import java.util.ArrayList;
import java.util.Arrays;
import java.util.List;
import java.util.concurrent.Callable;
import java.util.concurrent.ExecutorService;
import java.util.concurrent.Executors;
import java.util.concurrent.Future;
import java.util.concurrent.TimeUnit;
import java.util.regex.Matcher;
import java.util.regex.Pattern;
import javax.tools.JavaCompiler;
import javax.tools.SimpleJavaFileObject;
import javax.tools.ToolProvider;

/**
 * Breaks the class at one place after another and tells which breaks no edge test sees. Run by hand (a few minutes):
 * java -cp OUT Mutants OUT, where OUT holds this class and the edge tests, compiled.
 */
public final class Mutants {
    private static final String SOURCE = "src/main/java/HeavyFiles.java";
    private static final String[] TESTS = {
        "RowEdgesTest", "CourtEdgesTest", "TurnEdgesTest", "RuleEdgesTest", "FridayEdgesTest", "ToldEdgesTest"
    };
    private static final String[][] BREAKS = {
        {"<=", "<"}, {"(?<![<-])<(?![=<])", "<="}, {">=", ">"}, {"(?<![->])>(?![=>])", ">="}, {"==", "!="}, {"!=",
            "=="},
        {"&&", "||"}, {"\\|\\|", "&&"}, {"(?<=\\w\\)?) \\+ ", " - "}, {"(?<=\\w\\)?) - ", " + "}, {" \\+= ", " -= "},
        {"\\bTHERE\\b", "HERE"}, {"\\bHERE\\b", "THERE"}, {"\\bmax\\(", "min("}, {"\\bmin\\(", "max("},
        {"\\bNOTHING\\b", "BEYOND"}, {"\\bBEYOND\\b", "NOTHING"}, {"\\bUNLIKE\\b", "SIZE"}, {"\\bSIZE\\b", "UNLIKE"},
        {"\\bNOUGHT\\b", "NOTHING"}, {"\\bBAD\\b", "STATE"}, {"\\bFULL\\b", "SPENT"}, {"\\bSPENT\\b", "FULL"},
        {"\\b0\\b", "1"}, {"\\b1\\b", "0"}, {"\\b1\\b", "2"}, {"\\b2\\b", "3"}
    };

    private record Mutant(int line, String was, String is, String source) {
    }

    private Mutants() {
    }

    /** Runs all tests in this machine; the first that fails ends it with 1. */
    private static void runTests() throws ReflectiveOperationException {
        for (String test : TESTS) {
            Class.forName(test).getMethod("main", String[].class).invoke(null, (Object) new String[0]);
        }
    }

    private static void add(List<Mutant> all, String[] lines, int at, String is) {
        if (is.equals(lines[at])) {
            return;
        }
        String[] changed = lines.clone();
        changed[at] = is;
        all.add(new Mutant(at + 1, lines[at].trim(), is.trim(), String.join("\n", changed)));
    }

    private static void breakLine(List<Mutant> all, String[] lines, int at) {
        String line = lines[at];
        for (String[] one : BREAKS) {
            Matcher found = Pattern.compile(one[0]).matcher(line);
            while (found.find()) {
                add(all, lines, at, line.substring(0, found.start()) + one[1] + line.substring(found.end()));
            }
        }
        Matcher number = Pattern.compile("(?<== )(-?\\d+)(?=[,;])").matcher(line);
        while (line.contains("static final int") && number.find()) {
            int v = Integer.parseInt(number.group());
            for (int w : new int[] {v - 1, v + 1}) {
                add(all, lines, at, line.substring(0, number.start()) + w + line.substring(number.end()));
            }
        }
        if (line.matches(" +if \\(.*\\) \\{")) {
            add(all, lines, at, line.replaceFirst("if \\((.*)\\) \\{", "if (false && ($1)) {"));
            add(all, lines, at, line.replaceFirst("if \\((.*)\\) \\{", "if (true || ($1)) {"));
        }
        if (line.matches(" {8,}[\\w.\\[\\]() +-]+(\\(.*\\)|( [+|-]?= .*)|\\+\\+|--);") && !line.contains("return")) {
            add(all, lines, at, line.replaceFirst("\\S.*", ";"));
        }
        if (line.matches(" +return [^;]+;")) {
            add(all, lines, at, line.replaceFirst("return (.*);", "return ($1) + 1;"));
            add(all, lines, at, line.replaceFirst("return (.*);", "return !($1);"));
        }
    }

    /** Two refusals in the other order. */
    private static void swap(List<Mutant> all, String[] lines, int at) {
        String[] one = Arrays.copyOfRange(lines, at, at + 6);
        if (one[0].startsWith("        if (") && one[2].equals("        }")
            && one[3].startsWith("        if (") && one[5].equals("        }")) {
            String[] changed = lines.clone();
            System.arraycopy(one, 0, changed, at + 3, 3);
            System.arraycopy(one, 3, changed, at, 3);
            all.add(new Mutant(at + 1, one[0].trim(), "behind " + one[3].trim(), String.join("\n", changed)));
        }
    }

    private static boolean compiles(Mutant mutant, Path to) {
        JavaCompiler compiler = ToolProvider.getSystemJavaCompiler();
        SimpleJavaFileObject source =
            new SimpleJavaFileObject(URI.create("string:///HeavyFiles.java"), SimpleJavaFileObject.Kind.SOURCE) {
                @Override
                public CharSequence getCharContent(boolean ignored) {
                    return mutant.source;
                }
            };
        return compiler.getTask(null, null, found -> { }, List.of("-d", to.toString(),
            "-proc:none"), null, List.of(source))
            .call();
    }

    /** Whether the tests see it; one that does not compile or does not end is seen, too. */
    private static boolean isSeen(Mutant mutant, String classes) throws Exception {
        Path to = Files.createTempDirectory("mutant");
        try {
            if (!compiles(mutant, to)) {
                return true;
            }
            Process run = new ProcessBuilder("java", "-XX:TieredStopAtLevel=1", "-Xshare:auto", "-cp",
                to + java.io.File.pathSeparator + classes, "Mutants", "tests")
                .redirectErrorStream(true).redirectOutput(ProcessBuilder.Redirect.DISCARD).start();
            if (!run.waitFor(60, TimeUnit.SECONDS)) {
                run.destroyForcibly();
                return true;
            }
            return run.exitValue() != 0;
        } finally {
            try (var files = Files.list(to)) {
                for (Path file : files.toList()) {
                    Files.delete(file);
                }
            }
            Files.delete(to);
        }
    }

    public static void main(String[] args) throws Exception {
        if (args[0].equals("tests")) {
            runTests();
            return;
        }
        String[] lines = Files.readString(Path.of(SOURCE), StandardCharsets.ISO_8859_1).split("\n");
        List<Mutant> all = new ArrayList<>();
        for (int at = 0; at < lines.length; at++) {
            if (!lines[at].matches(" *(//|\\*|/\\*).*")) {
                breakLine(all, lines, at);
            }
            if (at + 6 <= lines.length) {
                swap(all, lines, at);
            }
        }
        ExecutorService workers = Executors.newFixedThreadPool(Runtime.getRuntime().availableProcessors());
        List<Callable<Boolean>> jobs = new ArrayList<>();
        for (Mutant mutant : all) {
            jobs.add(() -> isSeen(mutant, args[0]));
        }
        List<Future<Boolean>> seen = workers.invokeAll(jobs);
        workers.shutdown();
        int unseen = 0;
        for (int i = 0; i < all.size(); i++) {
            if (!seen.get(i).get()) {
                unseen++;
                System.out.println(all.get(i).line + ": " + all.get(i).was + "\n      " + all.get(i).is);
            }
        }
        System.out.println(all.size() + " breaks, " + unseen + " not seen; " + Arrays.toString(TESTS));
    }
}
