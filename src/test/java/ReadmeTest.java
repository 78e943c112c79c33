import java.io.ByteArrayOutputStream;
import java.io.File;
import java.io.IOException;
import java.io.PrintStream;
import java.lang.reflect.Method;
import java.lang.reflect.Modifier;
import java.net.URL;
import java.net.URLClassLoader;
import java.nio.charset.StandardCharsets;
import java.nio.file.Files;
import java.nio.file.Path;
import java.util.Set;
import java.util.TreeSet;
import java.util.regex.Matcher;
import java.util.regex.Pattern;
import javax.tools.ToolProvider;

/** README.md holds when it is done as written: its program, its table of calls, its list of tests. */
public final class ReadmeTest {
    private final Check t = new Check();
    private final String readme;

    private ReadmeTest(String readme) {
        this.readme = readme;
    }

    public static void main(String[] args) throws Exception {
        ReadmeTest all = new ReadmeTest(Files.readString(Path.of("README.md")));
        all.program();
        all.calls();
        all.tests();
        all.t.close("ReadmeTest");
    }

    /** The first block of a kind: what stands between its fences. */
    private String block(String kind) {
        String fence = "\n```" + kind + "\n";
        int from = readme.indexOf(fence);
        int to = from < 0 ? -1 : readme.indexOf("\n```\n", from + fence.length());
        t.truth("a block of " + kind, true, to >= 0);
        return to < 0 ? "" : readme.substring(from + fence.length(), to + 1);
    }

    private void program() throws Exception {
        Path work = Files.createTempDirectory("readme");
        try {
            Path source = Files.writeString(work.resolve("Example.java"), block("java"));
            int compiled = ToolProvider.getSystemJavaCompiler().run(null, null, null, "-Xlint:all", "-Werror",
                "-cp", System.getProperty("java.class.path"), "-d", work.toString(), source.toString());
            t.same("the program compiles", 0, compiled);
            if (compiled == 0) {
                lines(block("text").split("\n"), printed(work).split("\n"));
            }
        } finally {
            for (File file : work.toFile().listFiles()) {
                file.delete();
            }
            Files.delete(work);
        }
    }

    private String printed(Path work) throws IOException, ReflectiveOperationException {
        PrintStream before = System.out;
        ByteArrayOutputStream bytes = new ByteArrayOutputStream();
        try (URLClassLoader loader = new URLClassLoader(new URL[] {work.toUri().toURL()})) {
            Method main = loader.loadClass("Example").getMethod("main", String[].class);
            System.setOut(new PrintStream(bytes, true, StandardCharsets.ISO_8859_1));
            main.invoke(null, (Object) new String[0]);
        } finally {
            System.setOut(before);
        }
        return bytes.toString(StandardCharsets.ISO_8859_1).replace("\r", "");
    }

    private void lines(String[] want, String[] got) {
        t.same("lines printed", want.length, got.length);
        for (int i = 0; i < want.length && i < got.length; i++) {
            t.truth("printed \"" + got[i] + "\" for \"" + want[i] + "\"", true, want[i].equals(got[i]));
        }
    }

    /** The table names each call once, with as many arguments as it takes, and no other. */
    private void calls() {
        Set<String> want = new TreeSet<>();
        for (Method m : SoleraHouse.class.getDeclaredMethods()) {
            if (Modifier.isPublic(m.getModifiers())) {
                want.add(m.getName() + " " + m.getParameterCount());
            }
        }
        Set<String> got = new TreeSet<>();
        int rows = 0;
        Matcher call = Pattern.compile("`(\\w+)\\(([^)]*)\\)`").matcher(firstColumn());
        while (call.find()) {
            String arguments = call.group(2);
            got.add(call.group(1) + " " + (arguments.isEmpty() ? 0 : arguments.split(",").length));
            rows++;
        }
        t.truth("calls " + got, true, want.equals(got));
        t.same("calls named", want.size(), rows);
    }

    private String firstColumn() {
        StringBuilder column = new StringBuilder();
        for (String line : readme.split("\n")) {
            if (line.startsWith("| `")) {
                column.append(line, 0, line.indexOf(" | ")).append('\n');
            }
        }
        return column.toString();
    }

    private void tests() {
        Set<String> want = new TreeSet<>();
        for (String file : new File("src/test/java").list()) {
            if (file.endsWith("Test.java")) {
                want.add(file.substring(0, file.length() - 5));
            }
        }
        Set<String> got = new TreeSet<>();
        Matcher name = Pattern.compile("`(\\w+Test)`").matcher(readme);
        while (name.find()) {
            got.add(name.group(1));
        }
        t.truth("tests " + got, true, want.equals(got));
    }
}
