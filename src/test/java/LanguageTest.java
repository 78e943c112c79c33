import java.lang.reflect.Field;
import java.lang.reflect.Method;
import java.lang.reflect.Modifier;
import java.nio.file.Files;
import java.nio.file.Path;
import java.util.ArrayList;
import java.util.List;
import java.util.Set;
import java.util.TreeSet;
import java.util.regex.Matcher;
import java.util.regex.Pattern;

/** Rules of LANGUAGE.md, by their numbers, as far as the source and its classes show them to plain means. */
public final class LanguageTest {
    // No catch of any kind is needed: every index, divisor and reference is looked at ahead of its use.
    private static final String[] NEVER = {"try", "catch", "finally", "synchronized", "assert", "package", "native", "volatile",
        "double", "float", "Object", "Thread", "Runtime", "Random", "getMessage", "hashCode", "equals", "toString", "var"};
    private static final Set<String> IMPORTS = Set.of("java.util.ArrayList", "java.util.Arrays", "java.util.Iterator",
        "java.util.List", "java.util.NoSuchElementException");
    private static final Set<String> LIBRARY = Set.of("Arrays.fill", "Arrays.copyOf", "Arrays.copyOfRange", "System.arraycopy",
        "Math.min", "Math.max", "Math.abs");
    private static final int METHOD_LINES = 60;
    private static final int PARAMETERS = 7;
    private static final int CLASSES = 12;
    private static final int FIELDS = 20;

    private final Check t = new Check();
    private final String code;

    private LanguageTest(String source) {
        code = withoutTexts(source);
    }

    public static void main(String[] args) throws Exception {
        LanguageTest all = new LanguageTest(Files.readString(Path.of("src/main/java/SoleraHouse.java")));
        all.words();
        all.library();
        all.loops();
        all.methodLengths();
        all.classes();
        all.t.close("LanguageTest");
    }

    /** The source without comments; texts and signs in quotes are left empty, so that they don't count as code. */
    private static String withoutTexts(String source) {
        return Pattern.compile("//[^\n]*|/\\*.*?\\*/|\"(\\\\.|[^\"\\\\])*\"|'(\\\\.|[^'\\\\])'", Pattern.DOTALL)
            .matcher(source).replaceAll(found -> found.group().startsWith("/") ? " " : "0");
    }

    private List<String> all(String pattern) {
        List<String> found = new ArrayList<>();
        Matcher m = Pattern.compile(pattern).matcher(code);
        while (m.find()) {
            found.add(m.group());
        }
        return found;
    }

    /** Rules 2, 6, 10, 13. */
    private void words() {
        for (String word : NEVER) {
            t.same("the word " + word, 0, all("\\b" + word + "\\b").size());
        }
        t.same("lambdas, references to methods", 0, all("->|::").size());
        t.same("throws", all("throw new NoSuchElementException\\(\\);").size(), all("\\bthrow\\b").size());
    }

    /** Rules 3, 4. */
    private void library() {
        for (String line : all("import [^;]*")) {
            t.truth(line, true, IMPORTS.contains(line.substring(7)));
        }
        for (String use : all("\\b(Arrays|System|Math|Integer|Long|Character|String)\\.\\w+")) {
            t.truth(use, true, LIBRARY.contains(use));
        }
        t.same("three dimensions", 0, all("\\[\\]\\s*\\[\\]\\s*\\[\\]").size());
    }

    /** Rule 9: a loop's head holds a bound. */
    private void loops() {
        t.same("loops without a bound", 0, all("while\\s*\\(\\s*true|for\\s*\\([^;)]*;\\s*;").size());
        for (String head : all("(while|for)\\s*\\([^{]*")) {
            t.truth("a bound in " + head, true, head.contains("<") || head.contains(">="));
        }
    }

    /** Rule 11: from a line that opens a method to the one, as far in, that closes it. */
    private void methodLengths() {
        int methods = 0;
        String[] lines = code.split("\n");
        for (int i = 0; i < lines.length; i++) {
            Matcher head = Pattern.compile("( {4}| {8})(?! )[^=;]*\\)( throws \\w+)? \\{").matcher(lines[i]);
            if (head.matches() && !lines[i].contains(" class ")) {
                int end = i;
                while (end < lines.length && !lines[end].equals(head.group(1) + "}")) {
                    end++;
                }
                t.truth("lines of" + lines[i], true, end - i + 1 <= METHOD_LINES);
                methods++;
            }
        }
        t.truth("methods seen: " + methods, true, methods > 100);
    }

    /** Rules 1, 5, 11. */
    private void classes() {
        List<Class<?>> all = new ArrayList<>(List.of(SoleraHouse.class));
        all.addAll(List.of(SoleraHouse.class.getDeclaredClasses()));
        t.truth("classes: " + all.size(), true, all.size() <= CLASSES);
        Set<String> face = new TreeSet<>();
        for (Method m : SoleraHouse.class.getDeclaredMethods()) {
            if (Modifier.isPublic(m.getModifiers())) {
                face.add(m.getName());
            }
        }
        for (Class<?> one : all) {
            t.same("classes deeper inside " + one, 0, one == SoleraHouse.class ? 0 : one.getDeclaredClasses().length);
            fields(one);
            for (Method m : one.getDeclaredMethods()) {
                t.truth(m + " has few parameters", true, m.getParameterCount() <= PARAMETERS);
                t.truth(m + " has a name of its own", true, Modifier.isPublic(m.getModifiers()) || !face.contains(m.getName()));
            }
        }
    }

    private void fields(Class<?> one) {
        int own = 0;
        for (Field f : one.getDeclaredFields()) {
            if (Modifier.isStatic(f.getModifiers())) {
                t.truth(f + " is a constant", true, Modifier.isFinal(f.getModifiers())
                    && (f.getType().isPrimitive() || f.getType() == String.class));
            } else {
                own++;
            }
        }
        t.truth("fields of " + one + ": " + own, true, own <= FIELDS);
    }
}
