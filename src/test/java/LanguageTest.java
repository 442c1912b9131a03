import java.lang.reflect.Constructor;
import java.lang.reflect.Field;
import java.lang.reflect.Method;
import java.lang.reflect.Modifier;
import java.nio.charset.StandardCharsets;
import java.nio.file.Files;
import java.nio.file.Path;
import java.util.ArrayList;
import java.util.Arrays;
import java.util.HashSet;
import java.util.List;
import java.util.Set;
import java.util.TreeSet;
import java.util.regex.Matcher;
import java.util.regex.Pattern;

/** What of ../shared/LANGUAGE.md can be told from the source's words and from the class itself. */
public final class LanguageTest {
    private static final String[] FACE = {
        "int row(int,int)", "int lay(int,int,int)", "int at(int,int)", "int tear(int)", "int copy(int,int,int,int,int)",
        "int mean(int)", "int text(int,int)", "int put(int,int,int)", "int fault(int)", "int court(int)",
        "int suit(int,int)", "int mark(int,int)", "int stock(int,int)", "int damp(int)", "int judge(int,int)",
        "int who(int,int,int)", "int best(int,int)", "int fewest(int,int)", "int ways(int,int)", "int sure(int)",
        "int safe(int)", "int mixed(int,int,int,int)", "int mix(int,int)", "int turns()", "int from(int,int,int)",
        "int answer(int,int,int,int)", "int lender(int,int)", "int lend(int,int)", "int leaves(int,int)",
        "int adds(int,int)", "int when(int)", "int rule(int,int)", "int note(int,int)", "int back(int)", "int rules()",
        "int reply(int)", "int tell(int)", "int keep(int)", "int on(int)", "int asked()", "long upper()",
        "long lower()", "int count(int)", "int finding()", "int findings(int)", "long digest()"
    };
    private static final Set<String> FACE_NAMES = new HashSet<>();
    private static final Set<String> OWN_TYPES = new TreeSet<>();
    private static int wrong;

    private LanguageTest() {
    }

    private static void due(boolean isSo, String what) {
        if (!isSo) {
            wrong++;
            System.out.println("LANGUAGE.md: " + what);
        }
    }

    private static String signature(Method method) {
        StringBuilder all = new StringBuilder();
        for (Class<?> type : method.getParameterTypes()) {
            all.append(all.length() == 0 ? "" : ",").append(type.getSimpleName());
        }
        return method.getReturnType().getSimpleName() + " " + method.getName() + "(" + all + ")";
    }

    private static void face() {
        Set<String> due = new HashSet<>(Arrays.asList(FACE));
        for (Method method : HeavyFiles.class.getDeclaredMethods()) {
            if (Modifier.isPublic(method.getModifiers())) {
                due(due.remove(signature(method)), "1: not of the face: " + method);
            } else {
                due(Modifier.isPrivate(method.getModifiers()), "1: neither public nor private: " + method);
            }
        }
        due(due.isEmpty(), "1: missing of the face: " + due);
        Constructor<?>[] constructors = HeavyFiles.class.getDeclaredConstructors();
        due(constructors.length == 1 && Modifier.isPublic(constructors[0].getModifiers())
            && constructors[0].getParameterCount() == 0, "1: the constructor");
        Set<String> constants = new HashSet<>(Set.of("BAD", "FULL", "FINDING", "STATE", "SPENT", "NONE"));
        for (Field field : HeavyFiles.class.getDeclaredFields()) {
            boolean isFace = constants.remove(field.getName());
            due(isFace ? Modifier.isPublic(field.getModifiers()) : Modifier.isPrivate(field.getModifiers()), "1: " + field);
        }
        due(constants.isEmpty(), "1: missing constants: " + constants);
        due(Modifier.isFinal(HeavyFiles.class.getModifiers()), "1: final");
    }

    private static void classes() {
        List<Class<?>> all = new ArrayList<>(List.of(HeavyFiles.class.getDeclaredClasses()));
        for (Class<?> one : all) {
            OWN_TYPES.add(one.getSimpleName());
            due(Modifier.isStatic(one.getModifiers()) && !Modifier.isPublic(one.getModifiers()), "1, 2: " + one);
            due(one.getDeclaredClasses().length == 0, "2: a class inside " + one);
        }
        all.add(HeavyFiles.class);
        due(all.size() <= 12, "11: " + all.size() + " classes");
        for (Class<?> one : all) {
            int fields = 0;
            for (Field field : one.getDeclaredFields()) {
                boolean isStatic = Modifier.isStatic(field.getModifiers());
                fields += isStatic ? 0 : 1;
                due(!isStatic || Modifier.isFinal(field.getModifiers()), "5: " + field);
                due(!isStatic || field.getType() == int.class, "5: a constant of another type: " + field);
            }
            due(fields <= 20, "11: " + fields + " fields in " + one);
            for (Method method : one.getDeclaredMethods()) {
                due(!Modifier.isPrivate(method.getModifiers()) || !FACE_NAMES.contains(method.getName()),
                    "1: a private method of a public one's name: " + method);
                due(method.getParameterCount() <= 7, "11: parameters of " + method);
                due(!method.isSynthetic(), "2: made by the compiler: " + method);
            }
        }
    }

    private static String bare(String source) {
        String noComments = source.replaceAll("(?s)/\\*.*?\\*/", " ").replaceAll("//[^\n]*", " ");
        return noComments.replaceAll("'(\\\\.|[^'\\\\])'", "0").replaceAll("\"(\\\\.|[^\"\\\\])*\"", "S");
    }

    private static void words(String source) {
        String code = bare(source);
        String[] none = {
            "\\bthrow\\b", "\\bthrows\\b", "\\btry\\b", "\\bcatch\\b", "\\bfinally\\b", "\\bsynchronized\\b",
            "\\bassert\\b", "\\bpackage\\b", "\\bvolatile\\b", "\\btransient\\b", "\\bnative\\b", "->", "::",
            "static\\s*\\{", "\\bprotected\\b", "\\bvar\\b", "\\bhashCode\\b", "\\btoString\\b", "\\bequals\\b", "@",
            "Exact\\b", "\\bThread\\b", "\\bRandom\\b", "\\bnanoTime\\b", "\\bcurrentTimeMillis\\b", "\\bdouble\\b",
            "\\bfloat\\b", "\\bObject\\b", "\\bString\\b"
        };
        for (String one : none) {
            Matcher found = Pattern.compile(one).matcher(code);
            due(!found.find(), "a word outside of the rules: " + one);
        }
        due(source.chars().allMatch(sign -> sign == '\n' || sign >= 32 && sign < 127), "3: signs of 32 to 126 alone");
        Matcher imports = Pattern.compile("import [^;]*;").matcher(code);
        while (imports.find()) {
            due(imports.group().equals("import java.util.Arrays;"), "4: " + imports.group());
        }
        library(code);
    }

    private static void library(String code) {
        Set<String> known = new HashSet<>(Set.of("Arrays.fill", "System.arraycopy", "Math.max", "Math.min", "Math.abs",
            "Integer.bitCount"));
        Matcher call = Pattern.compile("\\b([A-Z][a-z]\\w*)\\.(\\w+)\\(").matcher(code);
        while (call.find()) {
            String name = call.group(1) + "." + call.group(2);
            due(known.contains(name) || OWN_TYPES.contains(call.group(1)), "4: " + name);
        }
        Matcher made = Pattern.compile("\\bnew (\\w+)").matcher(code);
        while (made.find()) {
            due(made.group(1).equals("int") || OWN_TYPES.contains(made.group(1)), "3: new " + made.group(1));
        }
    }

    private static void lengths(String source) {
        int start = -1;
        String closing = "";
        String[] lines = source.split("\n");
        for (int i = 0; i < lines.length; i++) {
            if (lines[i].matches("( {4}| {8})\\w[^=;]*\\) \\{") && !lines[i].matches(" +(if|for|while|switch)\\b.*")) {
                start = i;
                closing = lines[i].replaceAll("^( *).*", "$1") + "}";
            } else if (start >= 0 && lines[i].equals(closing)) {
                due(i - start < 60, "11: " + (i - start + 1) + " lines at line " + (start + 1));
                start = -1;
            }
            due(lines[i].length() <= 120, "a line of " + lines[i].length() + " signs at " + (i + 1));
        }
    }

    public static void main(String[] args) throws Exception {
        Path path = Path.of(args.length > 0 ? args[0] : "src/main/java/HeavyFiles.java");
        String source = Files.readString(path, StandardCharsets.ISO_8859_1);
        Arrays.stream(FACE).forEach(one -> FACE_NAMES.add(one.replaceAll("^\\w+ (\\w+).*", "$1")));
        face();
        classes();
        words(source);
        lengths(source);
        System.out.println(wrong == 0 ? "the language is kept" : wrong + " places outside of LANGUAGE.md");
        if (wrong != 0) {
            System.exit(1);
        }
    }
}
