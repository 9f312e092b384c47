import java.io.ByteArrayOutputStream;
import java.io.IOException;
import java.io.PrintStream;
import java.lang.reflect.Method;
import java.lang.reflect.Modifier;
import java.net.URL;
import java.net.URLClassLoader;
import java.nio.file.Files;
import java.nio.file.Path;
import java.util.ArrayList;
import java.util.List;
import java.util.Set;
import java.util.TreeSet;
import java.util.regex.Matcher;
import java.util.regex.Pattern;
import java.util.stream.Collectors;
import java.util.stream.Stream;
import javax.tools.JavaCompiler;
import javax.tools.ToolProvider;

/** README.md against what lies in the project: its example, its tables, and what it quotes. */
public final class ReadmeTest {
    private static final Path README = Path.of("README.md");
    private static final Path TESTS = Path.of("src/test/java");
    private static final Pattern CALL = Pattern.compile(
            "(?:int (\\w+) = )?(net\\.(\\w+)\\(([^;]*)\\));\\s+// (-?\\d+|BAD|NONE|FULL)(,.*)?");
    private static final Pattern SET = Pattern.compile("(\\d+)(?:,| is) the set \\{([^}]*)\\}");
    private static final Pattern CONSTANT = Pattern.compile("`(BAD|NONE|FULL)` \\((-?\\d+)\\)");
    private static final Pattern NAME = Pattern.compile("\\| `([^`]+)` \\|.*");
    private static final Pattern FILE = Pattern.compile("`((?:src/|\\.ci/)[\\w./]+)`");

    private static final Check check = new Check("ReadmeTest");

    private final List<String> lines;
    private final String text;

    private ReadmeTest(List<String> lines) {
        this.lines = lines;
        this.text = String.join("\n", lines);
    }

    public static void main(String[] args) throws IOException, ReflectiveOperationException {
        ReadmeTest test = new ReadmeTest(Files.readAllLines(README));
        test.example();
        test.setsAsBits();
        test.constants();
        test.tables();
        test.faultLines();
        test.files();
        check.finish();
    }

    // ---- the example

    /** Compiled as it stands, each call's answer kept; so the example is also Java that holds. */
    private void example() throws IOException, ReflectiveOperationException {
        StringBuilder code = new StringBuilder();
        List<String> calls = new ArrayList<>();
        List<Integer> told = new ArrayList<>();
        Set<String> shown = new TreeSet<>();
        for (String line : block("java")) {
            Matcher call = CALL.matcher(line);
            if (call.matches()) {
                String kept = "answers[" + told.size() + "] = " + call.group(2) + ";\n";
                boolean isNamed = call.group(1) != null;
                code.append(isNamed ? "int " + call.group(1) + " = " : "").append(kept);
                calls.add(line);
                told.add(number(call.group(5)));
                shown.add(call.group(3) + "/" + arguments(call.group(4)));
            } else {
                check.holds("README.md tells an answer in '" + line + "'",
                        !line.startsWith("net.") && !line.startsWith("int "));
                code.append(line).append('\n');
            }
        }
        check.holds("the example in README.md shows every call: " + shown,
                shown.equals(publicCalls()));
        compare(calls, told, answers(code.toString(), told.size()));
    }

    private static void compare(List<String> calls, List<Integer> told, int[] answers) {
        check.due("README.md: how many calls of the example were made", told.size(),
                answers.length);
        for (int i = 0; i < answers.length; i++) {
            check.holds("README.md tells '" + calls.get(i) + "', but the class answers "
                    + answers[i], told.get(i) == answers[i]);
        }
    }

    private static int number(String word) throws ReflectiveOperationException {
        boolean isNumber = !Character.isLetter(word.charAt(0));
        return isNumber ? Integer.parseInt(word) : constant(word);
    }

    private static int constant(String name) throws ReflectiveOperationException {
        return CliqueSearch.class.getField(name).getInt(null);
    }

    private static int arguments(String list) {
        return list.isBlank() ? 0 : list.split(",").length;
    }

    /** What the calls of the example answered; none if it does not compile. */
    private static int[] answers(String code, int size)
            throws IOException, ReflectiveOperationException {
        Path out = Files.createTempDirectory("readme");
        Path source = out.resolve("ReadmeExample.java");
        Files.writeString(source, "public final class ReadmeExample {\n"
                + "public static int[] answers() {\nint[] answers = new int[" + size + "];\n"
                + code + "return answers;\n}\n}\n");
        try {
            return isCompiled(source, out) ? answersOf(out) : new int[0];
        } finally {
            delete(out);
        }
    }

    private static boolean isCompiled(Path source, Path out) {
        JavaCompiler compiler = ToolProvider.getSystemJavaCompiler();
        boolean isSo = compiler != null && compiler.run(null, null, null, "-cp",
                System.getProperty("java.class.path"), "-d", out.toString(),
                source.toString()) == 0;
        check.holds("the example in README.md compiles", isSo);
        return isSo;
    }

    private static int[] answersOf(Path out) throws IOException, ReflectiveOperationException {
        URL[] places = {out.toUri().toURL()};
        try (URLClassLoader loader
                = new URLClassLoader(places, ReadmeTest.class.getClassLoader())) {
            return (int[]) loader.loadClass("ReadmeExample").getMethod("answers").invoke(null);
        }
    }

    private static void delete(Path directory) throws IOException {
        try (Stream<Path> files = Files.list(directory)) {
            for (Path file : files.collect(Collectors.toList())) {
                Files.delete(file);
            }
        }
        Files.delete(directory);
    }

    // ---- words that go with the example

    private void setsAsBits() {
        Matcher found = SET.matcher(text);
        int sets = 0;
        while (found.find()) {
            int bits = 0;
            for (String v : found.group(2).split(", ")) {
                bits |= 1 << Integer.parseInt(v);
            }
            check.holds("README.md tells '" + found.group() + "', which is " + bits,
                    Integer.parseInt(found.group(1)) == bits);
            sets++;
        }
        check.holds("README.md tells sets by their nodes", sets > 0);
    }

    private void constants() throws ReflectiveOperationException {
        Matcher found = CONSTANT.matcher(text);
        Set<String> names = new TreeSet<>();
        while (found.find()) {
            names.add(found.group(1));
            check.holds("README.md tells '" + found.group() + "'",
                    constant(found.group(1)) == Integer.parseInt(found.group(2)));
        }
        check.holds("README.md tells BAD, FULL and NONE: " + names,
                names.equals(Set.of("BAD", "FULL", "NONE")));
    }

    // ---- tables

    private void tables() throws IOException {
        Set<String> calls = new TreeSet<>();
        for (String call : namesBelow("### Calls")) {
            int open = call.indexOf('(');
            calls.add(call.substring(0, open) + "/"
                    + arguments(call.substring(open + 1, call.length() - 1)));
        }
        same("calls", publicCalls(), calls);

        Set<String> inside = new TreeSet<>();
        for (Class<?> c : CliqueSearch.class.getDeclaredClasses()) {
            inside.add(c.getSimpleName());
        }
        same("classes inside", inside, namesBelow("## Inside"));

        try (Stream<Path> files = Files.list(TESTS)) {
            Set<String> tests = files.map(file -> file.getFileName().toString())
                    .filter(name -> name.endsWith("Test.java"))
                    .map(name -> name.replace(".java", "")).collect(Collectors.toSet());
            same("tests", tests, namesBelow("## Tests"));
        }
    }

    private static void same(String what, Set<String> due, Set<String> told) {
        check.holds("README.md's table of " + what + " has " + new TreeSet<>(due)
                + ", but there stands " + new TreeSet<>(told), told.equals(due));
    }

    private static Set<String> publicCalls() {
        Set<String> calls = new TreeSet<>();
        for (Method m : CliqueSearch.class.getDeclaredMethods()) {
            if (Modifier.isPublic(m.getModifiers())) {
                calls.add(m.getName() + "/" + m.getParameterCount());
            }
        }
        return calls;
    }

    /** What stands as code at the beginning of a table's rows, up to the next heading. */
    private Set<String> namesBelow(String heading) {
        Set<String> names = new TreeSet<>();
        int start = lines.indexOf(heading);
        for (int i = start + 1; start >= 0 && i < lines.size(); i++) {
            Matcher row = NAME.matcher(lines.get(i));
            if (lines.get(i).startsWith("#")) {
                break;
            }
            if (row.matches()) {
                names.add(row.group(1));
            }
        }
        return names;
    }

    // ---- what a failing test tells

    /** The lines are made here as the tests themselves make them, so that their form is theirs. */
    private void faultLines() throws IOException {
        ByteArrayOutputStream said = new ByteArrayOutputStream();
        PrintStream out = System.out;
        System.setOut(new PrintStream(said, true));
        new Check("PromiseTest").due("2 a 17th", CliqueSearch.FULL, 16);
        Sentences sentences = new Sentences();
        sentences.promise(2, "FULL: 16.");
        sentences.due("node(1) as the 17th", CliqueSearch.FULL, 16);
        new Check("FaceTest").holds("no package line", false);
        System.setOut(out);

        List<String> due = said.toString().lines().collect(Collectors.toList());
        check.holds("README.md quotes " + due + ", but there stands " + block("text"),
                block("text").equals(due));
        isCaseOf("PromiseTest", "2 a 17th");
        isCaseOf("NetBoundaries", "node(1) as the 17th");
        isCaseOf("FaceTest", "no package line");
    }

    private static void isCaseOf(String test, String name) throws IOException {
        String source = Files.readString(TESTS.resolve(test + ".java"));
        check.holds(test + " has the case '" + name + "' that README.md quotes",
                source.contains('"' + name + '"'));
    }

    private void files() {
        Matcher found = FILE.matcher(text);
        while (found.find()) {
            check.holds(found.group(1) + " is there, as README.md says",
                    Files.exists(Path.of(found.group(1))));
        }
    }

    /** The lines of the first block of that kind. */
    private List<String> block(String kind) {
        List<String> found = new ArrayList<>();
        int start = lines.indexOf("```" + kind);
        for (int i = start + 1; start >= 0 && i < lines.size(); i++) {
            if (lines.get(i).startsWith("```")) {
                break;
            }
            found.add(lines.get(i));
        }
        return found;
    }
}
