import java.util.ArrayList;
import java.util.Collections;
import java.util.List;
import java.util.Random;

/** A terrace by chance, as plain lists, and its text. */
final class RandomTerraceHelp {
    static final String[] KINDS = {"begins", "plain", "king", "ends"};
    private static final String[] PIECE_NAMES = {"kings", "b", "begins", "dddddddd", "e", "to", "ggg",
        "king"};
    private static final String[] HOUSE_NAMES = {"at", "x", "from", "zzzzzzzz", "sleeps"};

    final int kings;
    final int sleeps;
    final int[] kinds;
    final List<int[]> follows = new ArrayList<>();
    final int[][] houses;
    final List<int[]> heard = new ArrayList<>();
    final List<Integer> silent = new ArrayList<>();
    final List<Integer> mixed = new ArrayList<>();

    RandomTerraceHelp(Random random) {
        kings = random.nextInt(5);
        sleeps = random.nextInt(4) == 0 ? 100 * random.nextInt(2) : random.nextInt(101);
        kinds = new int[1 + random.nextInt(8)];
        for (int p = 0; p < kinds.length; p++) {
            int[] likely = {0, 0, 1, 1, 1, 2, 2, 3, 3};
            kinds[p] = likely[random.nextInt(likely.length)];
        }
        List<int[]> pairs = pairs(kinds.length, kinds.length, random);
        pairs.removeIf(pair -> pair[0] == pair[1]);
        if (random.nextInt(3) > 0) {
            // Those that no TALE has room for come last, so that there are more TALES.
            pairs.sort((one, other) -> Boolean.compare(useless(one), useless(other)));
        }
        follows.addAll(pairs.subList(0, Math.min(pairs.size(), random.nextInt(4) == 0
                ? random.nextInt(15) : 14)));
        houses = new int[random.nextInt(6)][3];
        int hours = random.nextInt(2) == 0 ? 5 : 24;
        for (int[] house : houses) {
            house[0] = random.nextInt(4) == 0 ? random.nextInt(3) : random.nextInt(100);
            house[1] = random.nextInt(hours);
            house[2] = house[1] + random.nextInt(Math.min(24 - house[1], 6));
        }
        List<int[]> known = pairs(houses.length, kinds.length, random);
        heard.addAll(known.subList(0, Math.min(known.size(), random.nextInt(15))));
        for (int h = 0; h < houses.length; h++) {
            if (random.nextInt(5) == 0) {
                silent.add(h);
            }
        }
        int row = random.nextInt(7);
        for (int i = 0; i < row; i++) {
            mixed.add(random.nextInt(kinds.length));
        }
    }

    private boolean useless(int[] pair) {
        return kinds[pair[0]] == 3 || kinds[pair[1]] == 0;
    }

    private static List<int[]> pairs(int firsts, int seconds, Random random) {
        List<int[]> pairs = new ArrayList<>();
        for (int first = 0; first < firsts; first++) {
            for (int second = 0; second < seconds; second++) {
                pairs.add(new int[] {first, second});
            }
        }
        Collections.shuffle(pairs, random);
        return pairs;
    }

    List<String> lines(Random random) {
        List<String> lines = new ArrayList<>();
        lines.add("nurse kings " + kings + " sleeps " + sleeps);
        for (int p = 0; p < kinds.length; p++) {
            lines.add("piece " + PIECE_NAMES[p] + " " + KINDS[kinds[p]]);
        }
        for (int[] pair : follows) {
            lines.add("follows " + PIECE_NAMES[pair[0]] + " " + PIECE_NAMES[pair[1]]);
        }
        for (int h = 0; h < houses.length; h++) {
            // House LINES may stand anywhere behind the nurse.
            int at = lines.size() - (h == 0 ? random.nextInt(lines.size()) : 0);
            lines.add(at, "house " + HOUSE_NAMES[h] + " at " + houses[h][0] + " from " + houses[h][1]
                    + " to " + houses[h][2]);
        }
        for (int[] pair : heard) {
            lines.add("heard " + HOUSE_NAMES[pair[0]] + " " + PIECE_NAMES[pair[1]]);
        }
        for (int h : silent) {
            lines.add("silent " + HOUSE_NAMES[h]);
        }
        if (!mixed.isEmpty()) {
            StringBuilder row = new StringBuilder();
            for (int p : mixed) {
                row.append(row.length() == 0 ? "mixed " : ",").append(PIECE_NAMES[p]);
            }
            lines.add(row.toString());
        }
        return lines;
    }

    static String text(RandomTerraceHelp terrace, Random random) {
        return String.join(";", terrace.lines(random));
    }

    int heardBy(int house) {
        int bits = 0;
        for (int[] pair : heard) {
            bits |= pair[0] == house ? 1 << pair[1] : 0;
        }
        return bits;
    }
}
