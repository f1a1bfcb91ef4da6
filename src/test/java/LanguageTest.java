import java.io.IOException;
import java.lang.reflect.Constructor;
import java.lang.reflect.Field;
import java.lang.reflect.Method;
import java.lang.reflect.Modifier;
import java.nio.file.Files;
import java.nio.file.Path;
import java.util.ArrayList;
import java.util.HashSet;
import java.util.List;
import java.util.Set;
import java.util.regex.Matcher;
import java.util.regex.Pattern;

/** Those rules of LANGUAGE.md that can be seen in the text and the members of the class. */
public final class LanguageTest {
    private static final Set<Class<?>> CONSTANTS = Set.of(int.class, long.class, boolean.class, char.class, String.class,
        int[].class, long[].class, char[].class, byte[].class);

    private static final Set<String> LIBRARY = Set.of("String", "StringBuilder", "Integer", "Long", "Math", "System",
        "ArrayList", "List", "Arrays", "Iterator", "Iterable", "Comparable");
    private static final Set<String> FUNCTIONS = Set.of("Math.max", "Math.min", "Math.abs", "Math.floorDiv",
        "Math.floorMod");

    public static void main(String[] args) throws IOException {
        String text = Files.readString(Path.of("src/main/java/UpdateDesk.java"));
        List<Class<?>> classes = new ArrayList<>(List.of(UpdateDesk.class.getDeclaredClasses()));
        classes.add(UpdateDesk.class);
        words(withoutTexts(text), classes);
        lengths(text.split("\n"));
        names(classes);
        classes.forEach(LanguageTest::members);
        Check.due("rule 11: classes", classes.size() <= 12, true);
        Check.end();
    }

    private static String withoutTexts(String text) {
        String code = text.replaceAll("(?s)/\\*.*?\\*/", " ").replaceAll("//[^\n]*", " ");
        return code.replaceAll("\"[^\"\n]*\"|'[^'\n]*'", " ");
    }

    private static void words(String code, List<Class<?>> classes) {
        Set<String> known = new HashSet<>(LIBRARY);
        classes.forEach(own -> known.add(own.getSimpleName()));
        find(code, "\\b[A-Z]\\w*[a-z]\\w*\\b", "rule 4", known);
        find(code, "\\bMath\\s*\\.\\s*\\w+", "rule 4", FUNCTIONS);
        find(code, "\\bSystem\\s*\\.\\s*\\w+", "rule 4", Set.of("System.arraycopy"));
        find(code, "\\w+Exact\\b", "rule 4", Set.of());
        find(code, "\\bpackage\\b", "no package line", Set.of());
        find(code, "->|::", "rule 2", Set.of());
        find(code, "static\\s*\\{", "rule 5", Set.of());
        find(code, "\\b(throw|try|catch|finally|synchronized|assert)\\b", "rule 6", Set.of());
        find(code, "\\b(boolean equals|int hashCode|String toString)\\b", "rule 6", Set.of());
    }

    private static void find(String code, String pattern, String rule, Set<String> fine) {
        Matcher matcher = Pattern.compile(pattern).matcher(code);
        while (matcher.find()) {
            Check.due(rule + ": " + matcher.group(), fine.contains(matcher.group().replaceAll("\\s", "")), true);
        }
    }

    /** A method's first line ends with the brace of its body; its last line is a brace as far to the right. */
    private static void lengths(String[] lines) {
        int methods = 0;
        for (int from = 0; from < lines.length; from++) {
            Matcher head = Pattern.compile("( {4,8})[a-zA-Z][^;=]*\\) \\{").matcher(lines[from]);
            if (head.matches()) {
                int to = from;
                while (!lines[to].equals(head.group(1) + "}")) {
                    to++;
                }
                Check.due("rule 11: a short method, " + lines[from].strip(), to - from < 60, true);
                methods++;
            }
        }
        Check.due("methods were found", methods > 20, true);
    }

    private static void names(List<Class<?>> classes) {
        Set<String> face = new HashSet<>();
        for (Method method : UpdateDesk.class.getMethods()) {
            face.add(method.getName());
        }
        for (Class<?> own : classes) {
            for (Method method : own.getDeclaredMethods()) {
                boolean free = own == UpdateDesk.class && Modifier.isPublic(method.getModifiers());
                boolean right = free || !face.contains(method.getName());
                Check.due("rule 1: " + own.getName() + "." + method.getName(), right, true);
            }
        }
    }

    private static void members(Class<?> own) {
        int fields = 0;
        for (Field field : own.getDeclaredFields()) {
            if (Modifier.isStatic(field.getModifiers())) {
                boolean constant = Modifier.isFinal(field.getModifiers()) && CONSTANTS.contains(field.getType());
                Check.due("rule 5: " + field, constant, true);
            } else {
                fields++;
            }
        }
        Check.due("rule 11: fields of " + own, fields <= 20, true);
        for (Method method : own.getDeclaredMethods()) {
            Check.due("rule 11: parameters of " + method, method.getParameterCount() <= 7, true);
        }
        for (Constructor<?> constructor : own.getDeclaredConstructors()) {
            Check.due("rule 11: parameters of " + constructor, constructor.getParameterCount() <= 7, true);
        }
        if (own != UpdateDesk.class) {
            int modifiers = own.getModifiers();
            Check.due("rule 2: static " + own, Modifier.isStatic(modifiers), true);
            Check.due("rule 1: public " + own, Modifier.isPublic(modifiers), false);
            Check.due("rule 1: protected " + own, Modifier.isProtected(modifiers), false);
        }
    }
}
