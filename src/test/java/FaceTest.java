import java.lang.reflect.Constructor;
import java.lang.reflect.Field;
import java.lang.reflect.Method;
import java.lang.reflect.Modifier;
import java.nio.file.Files;
import java.nio.file.Path;
import java.util.Arrays;
import java.util.Set;
import java.util.TreeSet;
import java.util.regex.Pattern;

/** The document's face and the rules of LANGUAGE.md that can be seen from outside. */
public final class FaceTest {
    private static final TestHelp T = new TestHelp();
    private static final String[] FACE = {
        "int feed(int,int,int,int,int)", "int terrace(int)", "int fault()", "int where()",
        "int piece(int,int)", "int house(int,int)", "int known()", "int alone(int)", "int tales(int)",
        "int longest(int)", "int longestAt(int,int)", "int taleAt(int,int,int)", "int used(int)",
        "int needed(int)", "int leftOver(int)", "int isTale(int)", "int talesOf(int)",
        "int wanted(int)", "int ask(int)", "int askAll(int)", "int sense()", "int wisest()",
        "int soonest()", "int meets(int,int)", "int mostBehind(int)", "int walks()", "int visit(int)",
        "int hourOf(int)", "int orders()", "int slips()", "int meant(int)", "int meanings()",
        "int father(int,int,int,boolean)", "int rests(int)", "int rest(int)",
        "long tells(int,int,boolean)", "long mean(int,boolean)", "int evenings(int,int,int)",
        "int allSense(int,int)", "int tell(int,int)", "boolean learn(int,int)",
        "boolean forget(int,int)", "int evening(int)", "boolean seed(int)", "boolean undo()",
        "int image()", "boolean back(int)", "int led(int)", "int size(int)", "int trouble()"};

    public static void main(String[] args) throws Exception {
        face();
        names(TaleShares.class, publicNames());
        source();
        document();
        T.end();
    }

    private static Set<String> publicNames() {
        Set<String> names = new TreeSet<>();
        for (String method : FACE) {
            names.add(method.substring(method.indexOf(' ') + 1, method.indexOf('(')));
        }
        return names;
    }

    private static void face() {
        Set<String> want = new TreeSet<>(Arrays.asList(FACE));
        Set<String> got = new TreeSet<>();
        for (Method m : TaleShares.class.getDeclaredMethods()) {
            if (!Modifier.isPrivate(m.getModifiers())) {
                StringBuilder text = new StringBuilder();
                for (Class<?> type : m.getParameterTypes()) {
                    text.append(text.length() == 0 ? "" : ",").append(type.getName());
                }
                got.add(m.getReturnType().getName() + " " + m.getName() + "(" + text + ")");
                holds(m + " is public and no more", (m.getModifiers() & ~Modifier.PUBLIC) == 0);
            }
        }
        holds("the methods are " + got, got.equals(want));
        for (Field f : TaleShares.class.getDeclaredFields()) {
            holds(f + " is private", Modifier.isPrivate(f.getModifiers()) != f.getName().equals("NONE"));
        }
        Constructor<?>[] made = TaleShares.class.getDeclaredConstructors();
        holds("one constructor", made.length == 1 && made[0].getParameterCount() == 0
                && Modifier.isPublic(made[0].getModifiers()));
        T.check(1, "NONE", TaleShares.NONE, -1);
        holds("public and final", TaleShares.class.getModifiers() == (Modifier.PUBLIC | Modifier.FINAL));
        for (Class<?> inside : TaleShares.class.getDeclaredClasses()) {
            holds(inside + " is static", Modifier.isStatic(inside.getModifiers())
                    && !Modifier.isPublic(inside.getModifiers()));
            names(inside, publicNames());
        }
        holds("at most twelve classes", TaleShares.class.getDeclaredClasses().length < 12);
    }

    /** The document's own face, call by call, and what it says to stand ahead of some calls. */
    private static void document() throws Exception {
        Path doc = Path.of("../shared/DOC.md");
        if (!Files.exists(doc)) {
            System.out.println("there is no " + doc + ": the face was compared with FACE alone");
            return;
        }
        String text = Files.readString(doc);
        String source = Files.readString(Path.of("src/main/java/TaleShares.java"));
        String face = text.substring(text.indexOf("```java"), text.indexOf("## Terms"));
        holds("the face in its order", headsIn(source, "\\{").equals(headsIn(face, ";")));
        T.check(1, "calls of the face", headsIn(face, ";").size(), FACE.length + 1);
        java.util.regex.Matcher m = Pattern.compile(
                "Ahead of the calls (.*?) the interface says: (---- .*?)\\.\n").matcher(text);
        int groups = 0;
        while (m.find()) {
            String calls = m.group(1).replaceAll("[`,]", "");
            int from = source.indexOf("// " + m.group(2) + "\n");
            int to = source.indexOf("// ----", from + 1);
            holds(m.group(2) + " stands ahead of " + calls, from >= 0 && to > from
                    && String.join(" ", namesIn(source.substring(from, to))).equals(calls));
            groups++;
        }
        T.check(1, "groups of calls", groups, 12);
    }

    /** Public constructors and methods, as they are written. */
    private static java.util.List<String> headsIn(String text, String end) {
        java.util.List<String> heads = new java.util.ArrayList<>();
        java.util.regex.Matcher m = Pattern.compile("(?m)^    public ([\\w ]+\\(.*?) ?" + end + "$").matcher(text);
        while (m.find()) {
            heads.add(m.group(1));
        }
        return heads;
    }

    private static java.util.List<String> namesIn(String part) {
        java.util.List<String> names = new java.util.ArrayList<>();
        for (String head : headsIn(part, "\\{")) {
            names.add(head.substring(0, head.indexOf('(')).replaceAll(".* ", ""));
        }
        return names;
    }

    private static void names(Class<?> type, Set<String> taken) {
        int fields = 0;
        for (Method m : type.getDeclaredMethods()) {
            boolean ofFace = type == TaleShares.class && Modifier.isPublic(m.getModifiers());
            holds(m + " bears a name of the face", ofFace || !taken.contains(m.getName()));
            holds(m + " has at most seven parameters", m.getParameterCount() <= 7);
        }
        for (Field f : type.getDeclaredFields()) {
            boolean constant = Modifier.isStatic(f.getModifiers());
            holds(f + " is final if static", !constant || Modifier.isFinal(f.getModifiers()));
            fields += constant ? 0 : 1;
        }
        holds(type + " has at most twenty fields", fields <= 20);
    }

    private static void source() throws Exception {
        Path file = Path.of("src/main/java/TaleShares.java");
        String text = Files.readString(file).replaceAll("(?s)/\\*.*?\\*/", " ")
                .replaceAll("//[^\n]*", " ").replaceAll("\"[^\"\n]*\"", "\"\"");
        String[] ruledOut = {"->", "::", "\\btry\\b", "\\bcatch\\b", "\\bfinally\\b", "\\bassert\\b",
            "\\bsynchronized\\b", "\\bdouble\\b", "\\bfloat\\b", "Exact\\b", "\\bpackage\\b",
            "\\bthread\\b", "\\bprotected\\b", "\\bhashCode\\b", "\\btoString\\b", "\\bgetClass\\b",
            "while \\(true\\)", "for \\(;;\\)", "\" \\+", "\\+ \"", "static \\{"};
        for (String one : ruledOut) {
            holds("no " + one, !Pattern.compile(one).matcher(text).find());
        }
        holds("imports", text.split("\\bimport\\b").length == 2
                && text.contains("import java.util.NoSuchElementException;"));
        holds("one throw", text.split("\\bthrow\\b").length == 2);
        library(text);
        lengths(text);
    }

    /** Rules 4 and 12: which of the library is called, and that only constructors make objects. */
    private static void library(String text) {
        Set<String> called = found("\\b(?:Math|Integer|Long|System|Arrays|String|List)\\.\\w+", text);
        called.removeAll(Set.of("Math.max", "Math.min", "Math.abs", "Integer.bitCount",
                "System.arraycopy"));
        holds("of the library only what is listed: " + called, called.isEmpty());
        Set<String> made = found("(?m)^.*\\bnew\\b.*$", text);
        made.removeIf(line -> line.matches("    (?:    )?(?:private )?(?:final )?\\w+(?:\\[\\])? \\w+ = new .*;")
                || line.matches("        \\w+ = new \\w+\\(\\);") || line.contains("throw new"));
        holds("objects are made by fields and constructors: " + made, made.isEmpty());
    }

    private static Set<String> found(String pattern, String text) {
        Set<String> all = new TreeSet<>();
        java.util.regex.Matcher m = Pattern.compile(pattern).matcher(text);
        while (m.find()) {
            all.add(m.group());
        }
        return all;
    }

    /** Rule 11: a method ends some sixty lines behind its head. */
    private static void lengths(String text) {
        String[] lines = text.split("\n");
        for (int i = 0; i < lines.length; i++) {
            java.util.regex.Matcher head = Pattern.compile("^( {4}| {8})\\w[\\w\\[\\] ]*\\(.*\\{$").matcher(lines[i]);
            if (head.matches()) {
                int end = i;
                while (end < lines.length - 1 && !lines[end].equals(head.group(1) + "}")) {
                    end++;
                }
                holds(lines[i].trim() + " has " + (end - i) + " lines", end - i <= 60);
            }
        }
    }

    private static void holds(String what, boolean so) {
        T.check(1, what, so ? 1 : 0, 1);
    }
}
