import java.io.IOException;
import java.nio.file.Files;
import java.nio.file.Path;
import java.util.List;
import java.util.Map;
import java.util.TreeMap;
import java.util.regex.Matcher;
import java.util.regex.Pattern;
import java.util.stream.Collectors;
import java.util.stream.Stream;

/**
 * Each word of the document's terms and promises is quoted by a test of edges: a sentence without
 * such a test is told here, and a quote that doesn't stand in the document.
 */
public final class QuotesTest {
    private static final TestHelp T = new TestHelp();
    private static final Pattern QUOTE = Pattern.compile(
            "T\\.says\\(\\s*(\\d+),\\s*((?:\"[^\"]*\"\\s*\\+?\\s*)+)\\)");

    public static void main(String[] args) throws IOException {
        Path doc = Path.of("../shared/DOC.md");
        if (!Files.exists(doc)) {
            // The class is tested all the same; the document alone tells what is left out.
            System.out.println("there is no " + doc + ": quotes were not compared");
            return;
        }
        Map<Integer, String> parts = document(Files.readString(doc));
        T.check(0, "parts: the terms and 51 promises", parts.size(), 52);
        for (Path source : edges()) {
            unquote(parts, Files.readString(source), source.getFileName().toString());
        }
        for (Map.Entry<Integer, String> part : parts.entrySet()) {
            String left = part.getValue().replaceAll("[^A-Za-z0-9]+", " ").trim();
            T.check(part.getKey(), "no test for: " + left, left.length(), 0);
        }
        T.end();
    }

    private static List<Path> edges() throws IOException {
        try (Stream<Path> files = Files.list(Path.of("src/test/java"))) {
            return files.filter(f -> f.toString().endsWith("EdgesTest.java")).sorted()
                    .collect(Collectors.toList());
        }
    }

    /** The sentences of each promise by its number, those of the terms and of all calls by 0. */
    private static Map<Integer, String> document(String text) {
        Map<Integer, String> parts = new TreeMap<>();
        String calls = between(text, "images.\n", "## The public face");
        String terms = between(text, "## Terms", "Ahead of the calls `feed`");
        parts.put(0, plain(calls + " " + terms));
        Matcher m = Pattern.compile("(?s)## Promise (\\d+): [^\n]*\n+`[^`]*`: (.*?)\n+(?=## )").matcher(text);
        while (m.find()) {
            parts.put(Integer.parseInt(m.group(1)), plain(m.group(2)));
        }
        return parts;
    }

    private static String between(String text, String first, String behind) {
        int from = text.indexOf(first) + first.length();
        return text.substring(from, text.indexOf(behind, from));
    }

    private static String plain(String text) {
        return text.replaceAll("(?m)^```.*$", " ").replaceAll("\\s+", " ").trim();
    }

    private static void unquote(Map<Integer, String> parts, String source, String file) {
        Matcher m = QUOTE.matcher(source);
        while (m.find()) {
            int promise = Integer.parseInt(m.group(1));
            String quote = m.group(2).replaceAll("\"\\s*\\+\\s*\"", "").replaceAll("\"", "").trim();
            String part = parts.getOrDefault(promise, "");
            int at = part.indexOf(quote);
            T.check(promise, file + " quotes what isn't there, or is quoted already: " + quote,
                    at >= 0 ? 1 : 0, 1);
            if (at >= 0) {
                parts.put(promise, part.substring(0, at) + "|" + part.substring(at + quote.length()));
            }
        }
        T.check(0, file + ": calls of says", source.split("T\\.says\\(").length - 1,
                (int) QUOTE.matcher(source).results().count());
    }
}
