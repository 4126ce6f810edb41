import java.util.ArrayList;
import java.util.Collections;
import java.util.List;
import java.util.Random;

/** A terrace by chance, as plain lists, and its text. */
final class RandomTerraceHelp {
    static final String[] KINDS = {"begins", "plain", "king", "ends"};
    private static final String[] PIECE_NAMES = {"kings", "b", "begins", "dddddddd", "e", "to", "ggg",
        "king"};
    private static final String[] HOUSE_NAMES = {"at", "x", "from", "zzzzzzzz", "sleeps"};

    final int kings;
    final int sleeps;
    final int[] kinds;
    final List<int[]> follows;
    final int[][] houses;
    final List<int[]> heard = new ArrayList<>();
    final List<Integer> silent = new ArrayList<>();
    final List<Integer> mixed = new ArrayList<>();

    RandomTerraceHelp(Random random) {
        this(random, kindsByChance(random));
    }

    private RandomTerraceHelp(Random random, int[] kinds) {
        this(random, kinds, followsByChance(kinds, random));
    }

    private RandomTerraceHelp(Random random, int[] kinds, List<int[]> follows) {
        this.kinds = kinds;
        this.follows = follows;
        kings = random.nextInt(5);
        sleeps = random.nextInt(4) == 0 ? 100 * random.nextInt(2) : random.nextInt(101);
        houses = new int[random.nextInt(6)][3];
        int hours = random.nextInt(2) == 0 ? 5 : 24;
        for (int[] house : houses) {
            house[0] = random.nextInt(4) == 0 ? random.nextInt(3) : random.nextInt(100);
            house[1] = random.nextInt(hours);
            house[2] = house[1] + random.nextInt(Math.min(24 - house[1], 6));
        }
        List<int[]> known = pairs(houses.length, kinds.length, random);
        heard.addAll(known.subList(0, Math.min(known.size(), random.nextInt(15))));
        for (int h = 0; h < houses.length; h++) {
            if (random.nextInt(5) == 0) {
                silent.add(h);
            }
        }
        int row = random.nextInt(7);
        for (int i = 0; i < row; i++) {
            mixed.add(random.nextInt(kinds.length));
        }
    }

    /** As many TALES as a search found for eight pieces: 40, by two that begin and two that end. */
    static RandomTerraceHelp withMostTales(Random random) {
        return shaped(random, "bbppppee", "02 03 12 13 23 24 25 32 34 45 46 47 56 57");
    }

    /** A TALE of all eight pieces, and some that leave pieces out. */
    static RandomTerraceHelp withLongestTale(Random random) {
        String[] ways = {"02 13 35 46", "24 53 42 57", "", "03 14 25 36 47 52 61"};
        return shaped(random, "bppppppe", "01 12 23 34 45 56 67 " + ways[random.nextInt(ways.length)]);
    }

    /** KINDS by their first letters, follows by two digits; numbers of pieces by chance. */
    private static RandomTerraceHelp shaped(Random random, String letters, String twos) {
        List<Integer> numbers = new ArrayList<>();
        for (int p = 0; p < letters.length(); p++) {
            numbers.add(p);
        }
        Collections.shuffle(numbers, random);
        int[] kinds = new int[letters.length()];
        for (int p = 0; p < kinds.length; p++) {
            kinds[numbers.get(p)] = "bpke".indexOf(letters.charAt(p));
        }
        List<int[]> follows = new ArrayList<>();
        for (String two : twos.trim().split(" ")) {
            follows.add(new int[] {numbers.get(two.charAt(0) - '0'), numbers.get(two.charAt(1) - '0')});
        }
        return new RandomTerraceHelp(random, kinds, follows);
    }

    private static int[] kindsByChance(Random random) {
        int[] kinds = new int[1 + random.nextInt(8)];
        for (int p = 0; p < kinds.length; p++) {
            int[] likely = {0, 0, 1, 1, 1, 2, 2, 3, 3};
            kinds[p] = likely[random.nextInt(likely.length)];
        }
        return kinds;
    }

    private static List<int[]> followsByChance(int[] kinds, Random random) {
        List<int[]> pairs = pairs(kinds.length, kinds.length, random);
        pairs.removeIf(pair -> pair[0] == pair[1]);
        if (random.nextInt(3) > 0) {
            // Those that no TALE has room for come last, so that there are more TALES.
            pairs.sort((one, other) -> Boolean.compare(useless(kinds, one), useless(kinds, other)));
        }
        return new ArrayList<>(pairs.subList(0, Math.min(pairs.size(), random.nextInt(4) == 0
                ? random.nextInt(15) : 14)));
    }

    private static boolean useless(int[] kinds, int[] pair) {
        return kinds[pair[0]] == 3 || kinds[pair[1]] == 0;
    }

    private static List<int[]> pairs(int firsts, int seconds, Random random) {
        List<int[]> pairs = new ArrayList<>();
        for (int first = 0; first < firsts; first++) {
            for (int second = 0; second < seconds; second++) {
                pairs.add(new int[] {first, second});
            }
        }
        Collections.shuffle(pairs, random);
        return pairs;
    }

    List<String> lines(Random random) {
        List<String> lines = new ArrayList<>();
        lines.add("nurse kings " + kings + " sleeps " + sleeps);
        for (int p = 0; p < kinds.length; p++) {
            lines.add("piece " + PIECE_NAMES[p] + " " + KINDS[kinds[p]]);
        }
        for (int[] pair : follows) {
            lines.add("follows " + PIECE_NAMES[pair[0]] + " " + PIECE_NAMES[pair[1]]);
        }
        for (int h = 0; h < houses.length; h++) {
            // House LINES may stand anywhere behind the nurse.
            int at = lines.size() - (h == 0 ? random.nextInt(lines.size()) : 0);
            lines.add(at, "house " + HOUSE_NAMES[h] + " at " + houses[h][0] + " from " + houses[h][1]
                    + " to " + houses[h][2]);
        }
        for (int[] pair : heard) {
            lines.add("heard " + HOUSE_NAMES[pair[0]] + " " + PIECE_NAMES[pair[1]]);
        }
        for (int h : silent) {
            lines.add("silent " + HOUSE_NAMES[h]);
        }
        if (!mixed.isEmpty()) {
            StringBuilder row = new StringBuilder();
            for (int p : mixed) {
                row.append(row.length() == 0 ? "mixed " : ",").append(PIECE_NAMES[p]);
            }
            lines.add(row.toString());
        }
        return lines;
    }

    static String text(RandomTerraceHelp terrace, Random random) {
        return String.join(";", terrace.lines(random));
    }

    int heardBy(int house) {
        int bits = 0;
        for (int[] pair : heard) {
            bits |= pair[0] == house ? 1 << pair[1] : 0;
        }
        return bits;
    }
}
