import java.io.IOException;
import java.lang.reflect.Constructor;
import java.lang.reflect.Field;
import java.lang.reflect.Method;
import java.lang.reflect.Modifier;
import java.nio.file.Files;
import java.nio.file.Path;
import java.util.Arrays;
import java.util.Set;
import java.util.TreeSet;
import java.util.regex.Matcher;
import java.util.regex.Pattern;

/** The public face of the class, and the rules of LANGUAGE.md that can be seen from outside. */
public final class FaceTest {
    private static final String[] METHODS = {
        "node(int)", "edge(int,int,boolean)", "weight(int,int)", "neighbours(int)", "greatest()",
        "heaviest()", "maximal()", "maximal(int)", "cliques(int)", "cover()", "apart()",
        "near(int)", "colours(int)", "colour(int,int)", "peeled(int)", "core(int)", "search(int)",
        "searched(int)", "sure(int)", "taken(int)", "sides()", "pairs()", "count(int)"
    };
    private static final String[] CONSTANTS = {"BAD", "FULL", "NONE"};
    private static final String[] LIBRARY = {
        "java.util.ArrayList", "java.util.Arrays", "java.util.Iterator", "java.util.List"
    };
    private static final Pattern RULED_OUT = Pattern.compile(
            "\\b(throw|throws|try|catch|finally|synchronized|assert|volatile|transient|native"
                    + "|protected|var|Object|Random|Thread|\\w+Exact|\\w*Exception)\\b"
                    + "|->|::|static\\s*\\{|@");
    private static final int MOST_METHOD_LINES = 60;

    private static final Check check = new Check("FaceTest");

    public static void main(String[] args) throws IOException {
        face();
        classesInside();
        String path = args.length > 0 ? args[0] : "src/main/java/CliqueSearch.java";
        source(Files.readString(Path.of(path)));
        check.finish();
    }

    private static void face() {
        Class<?> c = CliqueSearch.class;
        check.holds("public and final", Modifier.isPublic(c.getModifiers())
                && Modifier.isFinal(c.getModifiers()) && c.getSuperclass() == Object.class);
        check.due("constructors", 1, c.getDeclaredConstructors().length);
        Constructor<?> made = c.getDeclaredConstructors()[0];
        check.holds("a public constructor without parameters",
                Modifier.isPublic(made.getModifiers()) && made.getParameterCount() == 0);

        Set<String> methods = new TreeSet<>();
        for (Method m : c.getDeclaredMethods()) {
            if (!Modifier.isPrivate(m.getModifiers())) {
                methods.add(written(m));
                check.holds(m + " is public int, not static, throws nothing",
                        m.getModifiers() == Modifier.PUBLIC && m.getReturnType() == int.class
                                && m.getExceptionTypes().length == 0);
            }
        }
        check.holds("methods " + methods, methods.equals(new TreeSet<>(Arrays.asList(METHODS))));

        Set<String> constants = new TreeSet<>();
        for (Field f : c.getDeclaredFields()) {
            if (!Modifier.isPrivate(f.getModifiers())) {
                constants.add(f.getName());
                check.holds(f + " is a public int constant", f.getType() == int.class
                        && f.getModifiers()
                                == (Modifier.PUBLIC | Modifier.STATIC | Modifier.FINAL));
            }
        }
        check.holds("constants " + constants,
                constants.equals(new TreeSet<>(Arrays.asList(CONSTANTS))));
        check.due("BAD", -1, CliqueSearch.BAD);
        check.due("NONE", -2, CliqueSearch.NONE);
        check.due("FULL", -3, CliqueSearch.FULL);
    }

    private static String written(Method m) {
        StringBuilder text = new StringBuilder(m.getName()).append('(');
        for (Class<?> type : m.getParameterTypes()) {
            text.append(text.charAt(text.length() - 1) == '(' ? "" : ",").append(type.getName());
        }
        return text.append(')').toString();
    }

    private static void classesInside() {
        Set<String> face = new TreeSet<>();
        for (String method : METHODS) {
            face.add(method.substring(0, method.indexOf('(')));
        }
        Class<?>[] inside = CliqueSearch.class.getDeclaredClasses();
        check.holds("at most twelve classes", inside.length < 12);
        members(CliqueSearch.class, face);
        for (Class<?> c : inside) {
            check.holds(c + " is static, not public or protected",
                    Modifier.isStatic(c.getModifiers())
                            && (c.getModifiers() & (Modifier.PUBLIC | Modifier.PROTECTED)) == 0);
            members(c, face);
        }
    }

    private static void members(Class<?> c, Set<String> face) {
        int fields = 0;
        for (Field f : c.getDeclaredFields()) {
            boolean isStatic = Modifier.isStatic(f.getModifiers());
            check.holds(f + " is final if static", !isStatic || Modifier.isFinal(f.getModifiers()));
            fields += isStatic ? 0 : 1;
        }
        check.holds(c + " has at most twenty fields", fields <= 20);
        for (Method m : c.getDeclaredMethods()) {
            check.holds(m + " has at most seven parameters", m.getParameterCount() <= 7);
            check.holds(m + " does not bear a name of the face",
                    !Modifier.isPrivate(m.getModifiers()) || !face.contains(m.getName()));
        }
    }

    private static void source(String text) {
        String code = text.replaceAll("(?s)/\\*.*?\\*/", " ").replaceAll("//[^\n]*", " ");
        Matcher found = RULED_OUT.matcher(code);
        while (found.find()) {
            check.holds("the source is without '" + found.group() + "'", false);
        }
        Matcher imports = Pattern.compile("import\\s+([^;]+);").matcher(code);
        while (imports.find()) {
            check.holds("import " + imports.group(1),
                    Arrays.asList(LIBRARY).contains(imports.group(1)));
        }
        check.holds("no package line", !code.contains("package "));
        methodLengths(text.split("\n"));
    }

    private static void methodLengths(String[] lines) {
        int start = 0;
        for (int i = 0; i < lines.length; i++) {
            if (lines[i].matches(" +(public|private) .*\\(.*\\) \\{")) {
                start = i;
            }
            if (lines[i].strip().equals("}") && indent(lines[i]) == indent(lines[start])) {
                check.holds("short method at line " + (start + 1), i - start <= MOST_METHOD_LINES);
            }
        }
    }

    private static int indent(String line) {
        return line.length() - line.stripLeading().length();
    }
}
