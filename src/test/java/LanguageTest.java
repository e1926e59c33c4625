import java.io.IOException;
import java.lang.reflect.Constructor;
import java.lang.reflect.Method;
import java.lang.reflect.Modifier;
import java.nio.file.Files;
import java.nio.file.Path;
import java.util.Arrays;
import java.util.List;
import java.util.Set;
import java.util.TreeSet;
import java.util.regex.Matcher;
import java.util.regex.Pattern;

/** The public face, and those rules of LANGUAGE.md that can be seen from the compiled class and its source. */
public final class LanguageTest {
    private static final String[] FACE = {
        "int put(int) IllegalArgumentException UnsupportedOperationException",
        "void end(int) IllegalArgumentException",
        "int read(int) IndexOutOfBoundsException",
        "int letter(int) IllegalArgumentException UnsupportedOperationException",
        "void clear()",
        "int word(int) IllegalArgumentException",
        "boolean row(int,int,int) IndexOutOfBoundsException IllegalArgumentException IllegalStateException",
        "boolean goesOn(int,int,int) IndexOutOfBoundsException IllegalArgumentException IllegalStateException",
        "int classes(int) IndexOutOfBoundsException IllegalStateException UnsupportedOperationException",
        "int classOf(int,int,int) IndexOutOfBoundsException IllegalArgumentException IllegalStateException "
            + "UnsupportedOperationException",
        "int classBehind(int,int,int) IndexOutOfBoundsException IllegalStateException "
            + "UnsupportedOperationException IllegalArgumentException",
        "int kind(int,int) IndexOutOfBoundsException IllegalStateException UnsupportedOperationException "
            + "IllegalArgumentException",
        "int flops(int) IndexOutOfBoundsException UnsupportedOperationException",
        "boolean flop(int,int) IndexOutOfBoundsException UnsupportedOperationException NoSuchElementException",
        "int readDesign()",
        "int readNumbers()",
        "int number(int) IndexOutOfBoundsException",
        "int has(int) IllegalArgumentException",
        "void design(int,int) IllegalArgumentException",
        "int gate(int,int) IllegalArgumentException UnsupportedOperationException",
        "void latch(int,int,boolean) IllegalArgumentException",
        "void signal(int,int) IllegalArgumentException",
        "int search(int,int) IndexOutOfBoundsException IllegalArgumentException UnsupportedOperationException",
        "int run(int,int) IllegalStateException IndexOutOfBoundsException IllegalArgumentException",
        "int differ(int,int) IllegalArgumentException UnsupportedOperationException",
        "int witness(int) IllegalStateException IndexOutOfBoundsException",
    };

    public static void main(String[] args) throws IOException {
        face();
        nested();
        String project = System.getProperty("project", ".");
        source(Files.readAllLines(Path.of(project, "src/main/java/AssertionBench.java")));
        Check.done("LanguageTest");
    }

    private static String told(Method m) {
        StringBuilder out = new StringBuilder(m.getReturnType() + " " + m.getName() + "(");
        out.append(String.join(",", Arrays.stream(m.getParameterTypes()).map(Class::getName).toList())).append(")");
        for (Class<?> e : m.getExceptionTypes()) {
            out.append(" ").append(e.getSimpleName());
        }
        return out.toString();
    }

    private static void face() {
        Class<?> c = AssertionBench.class;
        Check.holds("public and final", Modifier.isPublic(c.getModifiers()) && Modifier.isFinal(c.getModifiers()));
        Set<String> due = new TreeSet<>(List.of(FACE));
        Set<String> found = new TreeSet<>();
        for (Method m : c.getDeclaredMethods()) {
            if (!Modifier.isPrivate(m.getModifiers()) && !m.isSynthetic()) {
                found.add(told(m));
            }
        }
        Check.same("the face", due, found);
        Constructor<?>[] made = c.getConstructors();
        Check.holds("one public constructor", made.length == 1 && made[0].getParameterCount() == 0);
        for (var field : c.getDeclaredFields()) {
            boolean open = !Modifier.isPrivate(field.getModifiers());
            Check.same("field " + field.getName(), field.getName().equals("NONE"), open);
        }
    }

    private static void nested() {
        Set<String> names = new TreeSet<>();
        for (Method m : AssertionBench.class.getMethods()) {
            if (m.getDeclaringClass() == AssertionBench.class) {
                names.add(m.getName());
            }
        }
        Class<?>[] inside = AssertionBench.class.getDeclaredClasses();
        Check.holds("some twelve classes", inside.length + 1 <= 12);
        for (Class<?> c : inside) {
            Check.holds(c + " is static", Modifier.isStatic(c.getModifiers()) && !Modifier.isPublic(c.getModifiers()));
            long fields = Arrays.stream(c.getDeclaredFields()).filter(f -> !Modifier.isStatic(f.getModifiers())).count();
            Check.holds(c + " has some twenty fields", fields <= 20);
            for (Method m : c.getDeclaredMethods()) {
                Check.holds(c + "." + m.getName() + " bears no name of the face", !names.contains(m.getName()));
                Check.holds(c + "." + m.getName() + " takes seven at most", m.getParameterCount() <= 7);
            }
        }
    }

    private static void source(List<String> lines) {
        String text = String.join("\n", lines);
        List<String> imports = lines.stream().filter(l -> l.startsWith("import")).toList();
        Check.same("imports", List.of("import java.util.Arrays;", "import java.util.NoSuchElementException;"), imports);
        String code = text.replaceAll("\"(?:[^\"\\\\]|\\\\.)*\"", "\"\"").replaceAll("(?s)/\\*.*?\\*/", "")
                .replaceAll("//[^\n]*", "");
        for (String bad : new String[] {"->", "::", "synchronized", "assert ", "finally", " try {", "package ", "static {",
            "String.format", ".hashCode(", ".toString(", "System.out", "Thread", "Random", "while (true)", "for (;;)"}) {
            Check.holds("no " + bad, !code.contains(bad));
        }
        Matcher thrown = Pattern.compile("throw new (\\w+)\\(").matcher(code);
        while (thrown.find()) {
            Check.holds("throws " + thrown.group(1), List.of("IllegalStateException", "IllegalArgumentException",
                    "IndexOutOfBoundsException", "UnsupportedOperationException", "NoSuchElementException")
                    .contains(thrown.group(1)));
        }
        Matcher called = Pattern.compile("(System|Arrays|Math|Integer|Long)\\.(\\w+)").matcher(code);
        while (called.find()) {
            Check.holds("calls " + called.group(), List.of("System.arraycopy", "Arrays.fill", "Math.min", "Math.max",
                    "Integer.bitCount")
                    .contains(called.group()));
        }
        methodsAreShort(lines);
    }

    /** Methods stay short: each begins at an indent of four or eight and ends with its brace at that indent. */
    private static void methodsAreShort(List<String> lines) {
        for (int k = 0; k < lines.size(); k++) {
            Matcher head = Pattern.compile("^( {4}| {8})[a-z][^=;]*\\(.*\\{$|^( {12})throws .*\\{$").matcher(lines.get(k));
            if (!head.matches()) {
                continue;
            }
            String indent = head.group(1) == null ? "    " : head.group(1);
            int end = k + 1;
            while (end < lines.size() && !lines.get(end).equals(indent + "}")) {
                end++;
            }
            Check.holds("line " + (k + 1) + " begins a method of " + (end - k + 1) + " lines", end - k + 1 <= 60);
            Check.holds("line " + (k + 1) + " is not over long", lines.get(k).length() <= 120);
        }
    }
}
