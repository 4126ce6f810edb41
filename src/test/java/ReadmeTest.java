import java.io.ByteArrayOutputStream;
import java.io.PrintStream;
import java.net.URL;
import java.net.URLClassLoader;
import java.nio.charset.StandardCharsets;
import java.nio.file.Files;
import java.nio.file.Path;
import java.util.ArrayList;
import java.util.List;
import java.util.regex.Matcher;
import java.util.regex.Pattern;
import javax.tools.ToolProvider;

/** README.md: its example compiles and answers what it says; its tables name every call. */
public final class ReadmeTest {
    private static final TestHelp T = new TestHelp();

    public static void main(String[] args) throws Exception {
        String readme = Files.readString(Path.of("README.md"));
        int from = readme.indexOf("```java\n") + 8;
        String example = readme.substring(from, readme.indexOf("```", from));
        List<String> want = new ArrayList<>();
        Matcher m = Pattern.compile("println\\(.*\\); +// (-?\\w+)").matcher(example);
        while (m.find()) {
            want.add(m.group(1));
        }
        List<String> got = printedBy(example);
        T.check(0, "lines that the example prints", got.size(), want.size());
        for (int i = 0; i < Math.min(got.size(), want.size()); i++) {
            T.check(0, "line " + i + " is " + got.get(i) + ", README says " + want.get(i),
                    got.get(i).equals(want.get(i)) ? 1 : 0, 1);
        }
        for (java.lang.reflect.Method call : TaleShares.class.getMethods()) {
            if (call.getDeclaringClass() == TaleShares.class) {
                T.check(0, call.getName() + " is told", readme.contains("`" + call.getName() + "`") ? 1 : 0, 1);
            }
        }
        T.end();
    }

    private static List<String> printedBy(String example) throws Exception {
        Path dir = Files.createTempDirectory("readme");
        Path file = dir.resolve("Example.java");
        Files.writeString(file, example);
        int compiled = ToolProvider.getSystemJavaCompiler().run(null, null, null, "-cp",
                System.getProperty("java.class.path"), "-d", dir.toString(), file.toString());
        T.check(0, "the example compiles", compiled, 0);
        PrintStream console = System.out;
        ByteArrayOutputStream printed = new ByteArrayOutputStream();
        System.setOut(new PrintStream(printed, true, StandardCharsets.UTF_8));
        try (URLClassLoader loader = new URLClassLoader(new URL[] {dir.toUri().toURL()})) {
            loader.loadClass("Example").getMethod("main", String[].class).invoke(null, (Object) new String[0]);
        } finally {
            System.setOut(console);
            clear(dir);
        }
        return printed.toString(StandardCharsets.UTF_8).lines().toList();
    }

    private static void clear(Path dir) throws Exception {
        try (var files = Files.list(dir)) {
            for (Path file : files.toList()) {
                Files.delete(file);
            }
        }
        Files.delete(dir);
    }
}
