import java.util.ArrayList;
import java.util.HashMap;
import java.util.HashSet;
import java.util.List;
import java.util.Map;
import java.util.Random;
import java.util.Set;
import java.util.regex.Matcher;
import java.util.regex.Pattern;

/**
 * Promises 3 to 5 on texts changed by chance, against a second reader: FORM is found by a pattern
 * over signs that stand for TOKENS, all other FAULTS by going through them, the leftmost counts.
 */
public final class FaultsByChanceTest {
    private static final TestHelp T = new TestHelp();
    private static final String NAME = "[ksbpgeaftw]";
    private static final Pattern LINES = Pattern.compile("@(;@)*".replace("@",
            "(Nkdsd|P#[bpge]|F##|H#adfdtd|E##|S#|M#(,#)*)").replace("#", NAME));
    private static final String[][] SIGNS = {{"nurse", "N"}, {"piece", "P"}, {"follows", "F"},
        {"house", "H"}, {"heard", "E"}, {"silent", "S"}, {"mixed", "M"}, {"kings", "k"},
        {"sleeps", "s"}, {"begins", "b"}, {"plain", "p"}, {"king", "g"}, {"ends", "e"}, {"at", "a"},
        {"from", "f"}, {"to", "t"}};
    private static final String[] PUT = {";", ",", " ", "nurse", "piece", "follows", "house", "heard",
        "silent", "mixed", "kings", "sleeps", "begins", "ends", "at", "from", "to", "e", "x", "dddddddd",
        "ddddddddd", "0", "5", "24", "100", "101", "0000", "?", "A", "\u0000", "\u00ff"};

    private final List<String> tokens = new ArrayList<>();
    private final List<Integer> places = new ArrayList<>();
    private final StringBuilder signs = new StringBuilder();
    private int number;
    private int place;

    public static void main(String[] args) {
        Random random = new Random(51);
        int[] met = new int[7];
        for (int k = 0; k < 40000; k++) {
            String text = changed(random);
            if (text.length() <= 900) {
                met[compare(text)]++;
            }
        }
        for (int number = 0; number <= 6; number++) {
            T.check(4, "fault " + number + " was met often", met[number] > 100 ? 1 : 0, 1);
        }
        T.end();
    }

    private static int compare(String text) {
        FaultsByChanceTest second = new FaultsByChanceTest();
        second.read(text);
        TaleShares x = new TaleShares();
        int got = TestHelp.tell(x, text);
        T.check(3, "sound " + text, got == -1 ? 0 : 1, second.number == 0 ? 1 : 0);
        T.check(3, "trouble " + text, x.trouble(), second.number == 0 ? 0 : 4);
        T.check(4, "fault " + text, x.fault(), second.number);
        T.check(5, "where " + text, x.where(), second.number == 0 ? -1 : second.place);
        return second.number;
    }

    private static String changed(Random random) {
        List<String> lines = new RandomTerraceHelp(random).lines(random);
        if (random.nextInt(8) == 0) {
            lines.removeIf(line -> line.startsWith("piece"));
        }
        int changes = random.nextInt(4);
        for (int k = 0; k < changes && lines.size() > 1; k++) {
            int one = random.nextInt(lines.size());
            int other = random.nextInt(lines.size());
            switch (random.nextInt(5)) {
                case 0: lines.add(one, lines.get(other)); break;
                case 1: lines.add(one, lines.remove(other)); break;
                case 2: lines.remove(one); break;
                case 3: lines.add(lines.get(other)); break;
                default: lines.set(one, spoilt(lines.get(one), random)); break;
            }
        }
        if (random.nextInt(10) == 0) {
            for (int k = 0; k < 9; k++) {
                lines.add(random.nextInt(2) == 0 ? "piece q" + "qrstuvwxy".charAt(k) + " king"
                        : "house r" + "qrstuvwxy".charAt(k) + " at 5 from 0 to 0");
            }
        }
        String text = String.join(random.nextInt(3) == 0 ? " ; " : ";", lines);
        if (random.nextInt(6) == 0) {
            text = text.substring(0, random.nextInt(text.length() + 1));
        }
        return random.nextInt(6) == 0 ? text + "  " : text;
    }

    private static String spoilt(String line, Random random) {
        List<String> parts = new ArrayList<>(List.of(line.replace(",", " , ").trim().split(" +")));
        int at = random.nextInt(parts.size());
        boolean whole = Character.isDigit(parts.get(at).charAt(0)) && random.nextInt(4) > 0;
        String put = whole ? "" + random.nextInt(110) : PUT[random.nextInt(PUT.length)];
        switch (random.nextInt(4)) {
            case 0: parts.remove(at); break;
            case 1: parts.add(at, put); break;
            default: parts.set(at, put); break;
        }
        return String.join(" ", parts);
    }

    private void read(String text) {
        split(text);
        int form = Integer.MAX_VALUE;
        for (int i = 1; i <= signs.length() && form == Integer.MAX_VALUE; i++) {
            Matcher m = LINES.matcher(signs.substring(0, i));
            if (!m.matches() && !m.hitEnd()) {
                form = i - 1;
            }
        }
        boolean whole = LINES.matcher(signs).matches();
        place = Integer.MAX_VALUE;
        if (form < Integer.MAX_VALUE) {
            fault(places.get(form), 1);
        } else if (!whole) {
            fault(text.length(), 1);
        }
        int pieces = meaning(Math.min(form, signs.length()));
        if (whole && pieces == 0) {
            fault(text.length(), 6);
        }
    }

    private void fault(int where, int which) {
        if (where < place || where == place && which < number) {
            place = where;
            number = which;
        }
    }

    private void split(String text) {
        Matcher m = Pattern.compile("[a-z]+|[0-9]+|[^ ]").matcher(text);
        while (m.find()) {
            String token = m.group();
            tokens.add(token);
            places.add(m.start());
            char first = token.charAt(0);
            String sign = first == ';' || first == ',' ? token : "!";
            if (first >= 'a' && first <= 'z' && token.length() <= 8) {
                sign = "w";
                for (String[] known : SIGNS) {
                    sign = known[0].equals(token) ? known[1] : sign;
                }
            } else if (first >= '0' && first <= '9' && token.length() <= 3) {
                sign = "d";
            }
            signs.append(sign);
        }
    }

    /** Goes through the TOKENS that FORM lets stand; answers how many pieces were told. */
    private int meaning(int upTo) {
        Map<String, Character> sorts = new HashMap<>();
        Map<Character, Integer> counts = new HashMap<>();
        Set<String> once = new HashSet<>();
        int head = 0;
        for (int i = 0; i < upTo; i++) {
            char sign = signs.charAt(i);
            int nth = i - head;
            char line = signs.charAt(head);
            if (sign == ';') {
                head = i + 1;
            } else if (nth == 0) {
                firstWord(i, line, counts);
            } else if (line == 'N' && sign == 'd') {
                bound(i, 0, nth == 2 ? 4 : 100);
            } else if (line == 'H' && sign == 'd') {
                int least = nth == 7 ? Integer.parseInt(tokens.get(i - 2)) : 0;
                bound(i, least, nth == 3 ? 99 : 23);
            } else if ((line == 'P' || line == 'H') && nth == 1) {
                if (sorts.putIfAbsent(tokens.get(i), line) != null) {
                    fault(places.get(i), 3);
                }
            } else if (line == 'F' || line == 'E' || line == 'S' || line == 'M' && sign != ',') {
                usedName(i, nth, line, sorts, once);
            }
        }
        return counts.getOrDefault('P', 0);
    }

    private void firstWord(int i, char line, Map<Character, Integer> counts) {
        int many = counts.merge(line, 1, Integer::sum);
        if ((line == 'N' || line == 'M') && many > 1) {
            fault(places.get(i), 3);
        }
        if (line == 'P' && many > 8 || (line == 'F' || line == 'E') && many > 14
                || line == 'H' && many > 5) {
            fault(places.get(i), 5);
        }
        if (!counts.containsKey('N')) {
            fault(places.get(i), 6);
        }
    }

    private void bound(int i, int least, int most) {
        int value = Integer.parseInt(tokens.get(i));
        if (value < least || value > most) {
            fault(places.get(i), 4);
        }
    }

    private void usedName(int i, int nth, char line, Map<String, Character> sorts, Set<String> once) {
        char want = (line == 'E' || line == 'S') && nth == 1 ? 'H' : 'P';
        if (sorts.getOrDefault(tokens.get(i), '-') != want) {
            fault(places.get(i), 2);
        }
        boolean last = line == 'S' || line != 'M' && nth == 2;
        String key = line + " " + (nth == 2 ? tokens.get(i - 1) : "") + " " + tokens.get(i);
        if (last && !once.add(key) || line == 'F' && nth == 2 && tokens.get(i).equals(tokens.get(i - 1))) {
            fault(places.get(i), 3);
        }
        if (line == 'M' && nth / 2 >= 6) {
            fault(places.get(i), 5);
        }
    }
}
