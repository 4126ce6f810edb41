import java.math.BigInteger;
import java.util.ArrayList;
import java.util.Arrays;
import java.util.List;
import java.util.Random;

/**
 * Promises 6 to 51 on terraces and runs by chance, against the document's words done the long way:
 * all rows of pieces, all hours, all rounds. (Objects are asked more than 512 times here; the class
 * counts no calls, so that its answers beyond are as good as those below.)
 */
public final class ByChanceTest {
    private static final TestHelp T = new TestHelp();

    private final Random random;
    private final RandomTerraceHelp told;
    private final TaleShares x;
    private final int pieces;
    private final int houses;
    private final List<int[]> tales = new ArrayList<>();
    private final List<int[]> rounds = new ArrayList<>();
    private int[] knows;
    private int seed;
    private final List<int[]> kept = new ArrayList<>();
    private final List<int[]> images = new ArrayList<>();

    public static void main(String[] args) {
        Random random = new Random(8);
        int withTales = 0;
        for (int run = 0; run < 400; run++) {
            withTales += talesOn(new RandomTerraceHelp(random), random) > 0 ? 1 : 0;
        }
        T.check(10, "terraces with TALES are met often", withTales > 100 ? 1 : 0, 1);
        for (int run = 0; run < 20; run++) {
            int many = talesOn(RandomTerraceHelp.withMostTales(random), random);
            T.check(10, "as many TALES as can be", many, 40);
            talesOn(RandomTerraceHelp.withLongestTale(random), random);
        }
        T.end();
    }

    /** Asks all of this terrace; how many TALES it has. */
    private static int talesOn(RandomTerraceHelp told, Random random) {
        String text = RandomTerraceHelp.text(told, random);
        if (text.length() > 900) {
            // No TAPE has room for it: the next one may be shorter.
            return 0;
        }
        ByChanceTest test = new ByChanceTest(told, text, random);
        test.all();
        return test.tales.size();
    }

    private ByChanceTest(RandomTerraceHelp told, String text, Random random) {
        this.told = told;
        this.random = random;
        x = TestHelp.of(text);
        pieces = told.kinds.length;
        houses = told.houses.length;
        knows = new int[houses];
        for (int h = 0; h < houses; h++) {
            knows[h] = told.heardBy(h);
        }
        allRows(new int[0]);
        tales.sort(Arrays::compare);
        allRounds(new int[houses], 0);
        rounds.sort(Arrays::compare);
    }

    private void all() {
        sizes();
        talesOfSome();
        rowsByChance();
        timetable();
        slips();
        fathers();
        chance();
        for (int k = 0; k < 30; k++) {
            act();
            houses();
            if (k % 6 == 0) {
                park();
                evenings();
            }
        }
    }

    private void allRows(int[] row) {
        if (isTale(row)) {
            tales.add(row);
        }
        for (int p = 0; p < pieces && row.length < pieces; p++) {
            int piece = p;
            if (Arrays.stream(row).noneMatch(r -> r == piece)) {
                int[] more = Arrays.copyOf(row, row.length + 1);
                more[row.length] = p;
                allRows(more);
            }
        }
    }

    private boolean isTale(int[] row) {
        int kings = 0;
        for (int i = 0; i < row.length; i++) {
            int kind = told.kinds[row[i]];
            kings += kind == 2 ? 1 : 0;
            if ((kind == 0) != (i == 0) || (kind == 3) != (i == row.length - 1)) {
                return false;
            }
            for (int j = 0; j < i; j++) {
                if (row[j] == row[i]) {
                    return false;
                }
            }
            if (i > 0 && !follows(row[i - 1], row[i])) {
                return false;
            }
        }
        return row.length >= 2 && kings <= told.kings;
    }

    private boolean follows(int first, int second) {
        return told.follows.stream().anyMatch(pair -> pair[0] == first && pair[1] == second);
    }

    private static int bits(int[] row) {
        return Arrays.stream(row).map(p -> 1 << p).reduce(0, (a, b) -> a | b);
    }

    private List<int[]> talesIn(int set) {
        List<int[]> found = new ArrayList<>();
        for (int[] tale : tales) {
            if ((bits(tale) | set) == set) {
                found.add(tale);
            }
        }
        return found;
    }

    private static int[] longest(List<int[]> of) {
        return of.stream().reduce(null, (a, b) -> a == null || b.length > a.length ? b : a);
    }

    private void sizes() {
        int[] want = {told.kings, told.sleeps, pieces, told.follows.size(), houses, told.heard.size(),
            told.silent.size(), told.mixed.size(), 0, 0, 0, 0};
        for (int what = 0; what < want.length; what++) {
            T.check(50, "size " + what, x.size(what), want[what]);
        }
        for (int p = 0; p < pieces; p++) {
            int next = 0;
            int ahead = 0;
            for (int other = 0; other < pieces; other++) {
                next |= follows(p, other) ? 1 << other : 0;
                ahead |= follows(other, p) ? 1 << other : 0;
            }
            T.due(6, "kind", x, x.piece(p, 0), told.kinds[p]);
            T.due(6, "next", x, x.piece(p, 1), next);
            T.due(6, "ahead", x, x.piece(p, 2), ahead);
        }
        for (int h = 0; h < houses; h++) {
            for (int what = 0; what < 3; what++) {
                T.due(7, "house", x, x.house(h, what), told.houses[h][what]);
            }
            T.due(7, "silent", x, x.house(h, 4), told.silent.contains(h) ? 1 : 0);
        }
    }

    private void talesOfSome() {
        for (int k = 0; k < 20; k++) {
            int set = k == 0 ? (1 << pieces) - 1 : random.nextInt(1 << pieces) | random.nextInt(1 << pieces);
            List<int[]> some = talesIn(set);
            int[] first = longest(some);
            T.due(10, "tales " + set, x, x.tales(set), some.size());
            T.due(11, "longest " + set, x, x.longest(set), first == null ? -2 : first.length);
            T.due(14, "used", x, x.used(set), some.stream().mapToInt(ByChanceTest::bits)
                    .reduce(0, (a, b) -> a | b));
            T.due(15, "needed", x, x.needed(set), some.isEmpty() ? 0
                    : some.stream().mapToInt(ByChanceTest::bits).reduce(-1, (a, b) -> a & b));
            T.due(16, "leftOver", x, x.leftOver(set), some.stream()
                    .mapToInt(t -> Integer.bitCount(set & ~bits(t))).min().orElse(Integer.bitCount(set)));
            for (int i = -1; i <= 8; i++) {
                pieceOf(12, x.longestAt(set, i), first, i);
            }
            for (int t = 0; t <= some.size(); t++) {
                for (int i = -1; i <= (k == 0 ? 8 : 0); i++) {
                    pieceOf(13, x.taleAt(set, t, i), t < some.size() ? some.get(t) : null, i);
                }
            }
        }
    }

    private void pieceOf(int promise, int got, int[] row, int i) {
        if (row == null || i < 0 || i >= row.length) {
            T.refused(promise, "piece of a row", x, got, 1);
        } else {
            T.due(promise, "piece of a row", x, got, row[i]);
        }
    }

    private void rowsByChance() {
        for (int[] tale : tales) {
            T.due(17, "isTale", x, x.isTale(digits(tale)), 1);
        }
        for (int k = 0; k < 50; k++) {
            int[] row = new int[1 + random.nextInt(9)];
            for (int i = 0; i < row.length; i++) {
                row[i] = random.nextInt(k % 5 == 0 ? 9 : pieces);
            }
            if (Arrays.stream(row).anyMatch(p -> p >= pieces)) {
                T.refused(17, "isTale", x, x.isTale(digits(row)), 2);
            } else {
                T.due(17, "isTale", x, x.isTale(digits(row)), isTale(row) ? 1 : 0);
            }
        }
    }

    private static int digits(int[] row) {
        int number = 0;
        for (int p : row) {
            number = 10 * number + p + 1;
        }
        return number;
    }

    private void timetable() {
        List<int[]> orders = new ArrayList<>();
        List<int[]> hours = new ArrayList<>();
        allHours(new int[houses], 0, orders, hours);
        if (houses == 0) {
            T.refused(27, "walks", x, x.walks(), 6);
            T.refused(30, "orders", x, x.orders(), 6);
            return;
        }
        orders.sort((a, b) -> way(a) != way(b) ? way(a) - way(b) : Arrays.compare(a, b));
        T.due(30, "orders", x, x.orders(), orders.stream().map(Arrays::toString).distinct().count());
        T.due(27, "walks", x, x.walks(), orders.isEmpty() ? -2 : way(orders.get(0)));
        for (int i = -1; i <= houses; i++) {
            pieceOf(28, x.visit(i), orders.isEmpty() ? null : orders.get(0), i);
        }
        for (int h = 0; h < houses; h++) {
            int house = h;
            int want = orders.isEmpty() ? -2 : hours.stream()
                    .filter(of -> Arrays.equals(orderOf(of), orders.get(0)))
                    .mapToInt(of -> of[house]).min().orElse(-3);
            T.due(29, "hourOf", x, x.hourOf(h), want);
        }
    }

    private void allHours(int[] of, int h, List<int[]> orders, List<int[]> hours) {
        if (h == houses) {
            if (Arrays.stream(of).distinct().count() == houses) {
                hours.add(of.clone());
                orders.add(orderOf(of));
            }
            return;
        }
        for (int hour = told.houses[h][1]; hour <= told.houses[h][2]; hour++) {
            of[h] = hour;
            allHours(of, h + 1, orders, hours);
        }
    }

    private int[] orderOf(int[] hours) {
        Integer[] order = new Integer[houses];
        Arrays.setAll(order, h -> h);
        Arrays.sort(order, (a, b) -> hours[a] - hours[b]);
        return Arrays.stream(order).mapToInt(h -> h).toArray();
    }

    private int way(int[] order) {
        int sum = 0;
        for (int i = 1; i < order.length; i++) {
            sum += Math.abs(told.houses[order[i]][0] - told.houses[order[i - 1]][0]);
        }
        return sum;
    }

    private void slips() {
        int[] row = told.mixed.stream().mapToInt(p -> p).toArray();
        if (row.length == 0) {
            T.refused(31, "slips", x, x.slips(), 6);
            T.refused(32, "meant", x, x.meant(0), 6);
            T.refused(33, "meanings", x, x.meanings(), 6);
            return;
        }
        int least = tales.stream().mapToInt(t -> edits(row, t)).min().orElse(-2);
        int[] first = tales.stream().filter(t -> edits(row, t) == least).findFirst().orElse(null);
        T.due(31, "slips", x, x.slips(), least);
        T.due(33, "meanings", x, x.meanings(),
                tales.stream().filter(t -> edits(row, t) == least).count());
        for (int i = -1; i <= 8; i++) {
            pieceOf(32, x.meant(i), first, i);
        }
    }

    private static int edits(int[] one, int[] other) {
        int[][] least = new int[one.length + 1][other.length + 1];
        for (int i = 0; i <= one.length; i++) {
            for (int j = 0; j <= other.length; j++) {
                int best = i == 0 && j == 0 ? 0 : Integer.MAX_VALUE;
                best = i > 0 ? Math.min(best, least[i - 1][j] + 1) : best;
                best = j > 0 ? Math.min(best, least[i][j - 1] + 1) : best;
                best = i > 0 && j > 0 ? Math.min(best, least[i - 1][j - 1]
                        + (one[i - 1] == other[j - 1] ? 0 : 1)) : best;
                least[i][j] = best;
            }
        }
        return least[one.length][other.length];
    }

    private void fathers() {
        int worth = random.nextInt(21);
        int[][] one = new int[7][7];
        int[][] two = new int[7][7];
        for (int a = 0; a < 7; a++) {
            for (int b = 0; b < 7; b++) {
                one[a][b] = (a >= b ? worth : 0) + (a > b ? 2 : 0) - a;
                two[a][b] = (b >= a ? worth : 0) + (b > a ? 2 : 0) - b;
                T.due(34, "father", x, x.father(worth, a, b, false), one[a][b]);
                T.due(34, "father", x, x.father(worth, a, b, true), two[a][b]);
            }
        }
        List<Integer> rests = new ArrayList<>();
        for (int a = 0; a < 7; a++) {
            for (int b = 0; b < 7; b++) {
                int mostOne = Integer.MIN_VALUE;
                int mostTwo = Integer.MIN_VALUE;
                for (int c = 0; c < 7; c++) {
                    mostOne = Math.max(mostOne, one[c][b]);
                    mostTwo = Math.max(mostTwo, two[a][c]);
                }
                if (one[a][b] == mostOne && two[a][b] == mostTwo) {
                    rests.add(10 * a + b);
                }
            }
        }
        T.due(35, "rests", x, x.rests(worth), rests.size());
        T.due(36, "rest", x, x.rest(worth), rests.isEmpty() ? -2 : rests.get(0));
    }

    private void chance() {
        for (int n = 0; n <= 8; n++) {
            BigInteger under = BigInteger.valueOf(100).pow(n + 1);
            BigInteger sum = BigInteger.ZERO;
            for (int many = 0; many <= n; many++) {
                BigInteger upper = BigInteger.valueOf(100 - told.sleeps).pow(many)
                        .multiply(BigInteger.valueOf(many < n ? told.sleeps : 100))
                        .multiply(BigInteger.valueOf(100).pow(n - many));
                sum = sum.add(upper.multiply(BigInteger.valueOf(many)));
                BigInteger by = upper.gcd(under);
                T.due(37, "tells", x, x.tells(n, many, false), upper.divide(by).longValueExact());
                T.due(37, "tells", x, x.tells(n, many, true), under.divide(by).longValueExact());
            }
            BigInteger by = sum.gcd(under);
            T.due(38, "mean", x, x.mean(n, false), sum.divide(by).longValueExact());
            T.due(38, "mean", x, x.mean(n, true), under.divide(by).longValueExact());
        }
    }

    private int any(int below) {
        return random.nextInt(8) == 0 ? random.nextInt(12) - 3 : random.nextInt(Math.max(below, 1));
    }

    private boolean isHouse(int h) {
        return h >= 0 && h < houses;
    }

    private boolean knows(int h, int p) {
        return (knows[h] >> p & 1) == 1;
    }

    private int[] snapshot() {
        int[] all = Arrays.copyOf(knows, houses + 1);
        all[houses] = seed;
        return all;
    }

    private void restore(int[] all) {
        knows = Arrays.copyOf(all, houses);
        seed = all[houses];
    }

    private void keep() {
        kept.add(snapshot());
        if (kept.size() > 16) {
            kept.remove(0);
        }
    }

    private void act() {
        int h = any(houses);
        int p = any(pieces);
        boolean such = isHouse(h) && p >= 0 && p < pieces;
        switch (random.nextInt(9)) {
            case 0: actTell(h, any(houses)); break;
            case 1:
            case 2:
                boolean canLearn = such && !knows(h, p);
                outcome(42, x.learn(h, p), canLearn, such ? 5 : 1);
                if (canLearn) {
                    keep();
                    knows[h] |= 1 << p;
                }
                break;
            case 3:
            case 4:
                boolean canForget = such && knows(h, p);
                outcome(43, x.forget(h, p), canForget, such ? 5 : 1);
                if (canForget) {
                    keep();
                    knows[h] -= 1 << p;
                }
                break;
            case 5: actEvening(h); break;
            case 6: actSeed(); break;
            case 7:
                outcome(46, x.undo(), !kept.isEmpty(), 6);
                if (!kept.isEmpty()) {
                    restore(kept.remove(kept.size() - 1));
                }
                break;
            default: actImage(); break;
        }
        T.check(50, "SEED", x.size(8), seed);
        T.check(50, "ACTS", x.size(9), kept.size());
        T.check(50, "IMAGES", x.size(10), images.size());
    }

    private void outcome(int promise, boolean got, boolean done, int why) {
        if (done) {
            T.due(promise, "act", x, got, true);
        } else {
            T.refused(promise, "act", x, got, why);
        }
    }

    private void actTell(int h, int other) {
        int got = x.tell(h, other);
        if (!isHouse(h) || !isHouse(other) || h == other) {
            T.refused(41, "tell", x, got, 1);
        } else if (told.silent.contains(h)) {
            T.refused(41, "tell", x, got, 5);
        } else {
            T.due(41, "tell", x, got, knows[h] & ~knows[other]);
            keep();
            knows[other] |= knows[h];
        }
    }

    private void actEvening(int h) {
        int got = x.evening(h);
        if (!isHouse(h)) {
            T.refused(44, "evening", x, got, 1);
        } else if (tales.isEmpty()) {
            T.refused(44, "evening", x, got, 6);
        } else {
            keep();
            int[] then = evening(seed);
            seed = then[0];
            knows[h] |= then[1];
            T.due(44, "evening", x, got, then[2]);
        }
    }

    /** SEED then, pieces told as bits, how many. */
    private int[] evening(int from) {
        int[] tale = longest(tales);
        int[] then = {from, 0, 0};
        for (int i = 0; tale != null && i < tale.length; i++) {
            then[0] = (int) ((75L * then[0] + 74) % 65537);
            if (then[0] % 100 < told.sleeps) {
                break;
            }
            then[1] |= 1 << tale[i];
            then[2]++;
        }
        return then;
    }

    private void actSeed() {
        int v = random.nextInt(6) == 0 ? random.nextInt(2) * 65538 - 1 : random.nextInt(65537);
        boolean right = v >= 0 && v <= 65536;
        outcome(45, x.seed(v), right, 2);
        seed = right ? v : seed;
    }

    private void actImage() {
        if (random.nextInt(3) > 0) {
            int got = x.image();
            if (images.size() == 3) {
                T.refused(47, "image", x, got, 3);
            } else {
                T.due(47, "image", x, got, images.size());
                images.add(snapshot());
            }
            return;
        }
        int image = any(3);
        boolean such = image >= 0 && image < images.size();
        outcome(48, x.back(image), such, 1);
        if (such) {
            restore(images.get(image));
            kept.clear();
        }
    }

    private void houses() {
        int union = 0;
        int sense = 0;
        int wisest = -2;
        for (int h = 0; h < houses; h++) {
            union |= knows[h];
            sense |= talesIn(knows[h]).isEmpty() ? 0 : 1 << h;
            wisest = wisest < 0 || Integer.bitCount(knows[h]) > Integer.bitCount(knows[wisest]) ? h : wisest;
        }
        T.due(8, "known", x, x.known(), union);
        T.due(22, "sense", x, x.sense(), sense);
        T.due(23, "wisest", x, x.wisest(), wisest);
        for (int h = 0; h < houses; h++) {
            house(h, sense);
        }
        for (int p = 0; p < pieces; p++) {
            int who = 0;
            for (int h = 0; h < houses; h++) {
                who |= knows(h, p) ? 1 << h : 0;
            }
            T.due(6, "who KNOWS", x, x.piece(p, 3), who);
        }
    }

    private void house(int h, int sense) {
        int others = 0;
        int wanted = -2;
        int ask = -2;
        int now = talesIn(knows[h]).size();
        int most = now;
        for (int p = 0; p < pieces; p++) {
            if (talesIn(knows[h] | 1 << p).size() > most) {
                wanted = p;
                most = talesIn(knows[h] | 1 << p).size();
            }
        }
        most = now;
        for (int other = 0; other < houses; other++) {
            others |= other == h ? 0 : knows[other];
            boolean tells = other != h && !told.silent.contains(other);
            if (tells && talesIn(knows[h] | knows[other]).size() > most) {
                ask = other;
                most = talesIn(knows[h] | knows[other]).size();
            }
        }
        T.due(7, "KNOWS", x, x.house(h, 3), knows[h]);
        T.due(7, "SENSE", x, x.house(h, 5), sense >> h & 1);
        T.due(9, "alone", x, x.alone(h), knows[h] & ~others);
        T.due(18, "talesOf", x, x.talesOf(h), now);
        T.due(19, "wanted", x, x.wanted(h), wanted);
        T.due(20, "ask", x, x.ask(h), ask);
        T.due(21, "askAll", x, x.askAll(h), askAll(h));
    }

    private int askAll(int h) {
        for (int many = 0; many <= houses; many++) {
            for (int set = 0; set < 1 << houses; set++) {
                int then = knows[h];
                boolean all = Integer.bitCount(set) == many && (set >> h & 1) == 0;
                for (int other = 0; other < houses; other++) {
                    boolean in = (set >> other & 1) == 1;
                    all &= !in || !told.silent.contains(other);
                    then |= in ? knows[other] : 0;
                }
                if (all && !talesIn(then).isEmpty()) {
                    return set;
                }
            }
        }
        return -2;
    }

    /** All rows of partners (houses: nobody) in which meetings go both ways. */
    private void allRounds(int[] partners, int h) {
        if (h == houses) {
            for (int one = 0; one < houses; one++) {
                boolean both = partners[one] == houses
                        || partners[one] != one && partners[partners[one]] == one;
                if (!both) {
                    return;
                }
            }
            rounds.add(partners.clone());
            return;
        }
        for (int partner = 0; partner <= houses; partner++) {
            partners[h] = partner;
            allRounds(partners, h + 1);
        }
    }

    private int[] behind(int[] ahead, int[] round) {
        int[] then = ahead.clone();
        for (int h = 0; h < houses; h++) {
            if (round[h] < houses && !told.silent.contains(round[h])) {
                then[h] |= ahead[round[h]];
            }
        }
        return then;
    }

    private int knowAll(int[] then) {
        int union = Arrays.stream(knows).reduce(0, (a, b) -> a | b);
        return (int) Arrays.stream(then).filter(k -> k == union).count();
    }

    private void park() {
        List<int[][]> ways = new ArrayList<>();
        ways.add(new int[0][]);
        int soonest = -2;
        int[][] first = null;
        for (int many = 0; many <= 3 && first == null; many++) {
            int most = 0;
            List<int[][]> longer = new ArrayList<>();
            for (int[][] way : ways) {
                int[] then = knows;
                for (int[] round : way) {
                    then = behind(then, round);
                }
                most = Math.max(most, knowAll(then));
                if (first == null && knowAll(then) == houses) {
                    first = way;
                    soonest = many;
                }
                for (int k = 0; k < rounds.size() && many < 3; k++) {
                    int[][] more = Arrays.copyOf(way, many + 1);
                    more[many] = rounds.get(k);
                    longer.add(more);
                }
            }
            if (many < 3) {
                T.due(26, "mostBehind", x, x.mostBehind(many), most);
            }
            ways = longer;
        }
        T.due(24, "soonest", x, x.soonest(), soonest);
        for (int r = -1; r <= 3; r++) {
            for (int h = -1; h <= houses; h++) {
                int got = x.meets(r, h);
                if (first == null || r < 0 || r >= soonest || !isHouse(h)) {
                    T.refused(25, "meets", x, got, 1);
                } else {
                    T.due(25, "meets", x, got, first[r][h] == houses ? -2 : first[r][h]);
                }
            }
        }
    }

    private void evenings() {
        int from = random.nextInt(65537);
        int n = random.nextInt(61);
        int[] then = knows.clone();
        int draw = from;
        int first = 0;
        for (int k = 0; k < n && houses > 0; k++) {
            int[] told = evening(draw);
            draw = told[0];
            then[k % houses] |= told[1];
            boolean all = Arrays.stream(then).noneMatch(set -> talesIn(set).isEmpty());
            first = first == 0 && all ? k + 1 : first;
        }
        for (int h = 0; h < houses; h++) {
            T.due(39, "evenings", x, x.evenings(h, from, n), then[h]);
        }
        if (houses == 0) {
            T.refused(40, "allSense", x, x.allSense(from, n), 1);
        } else {
            T.due(40, "allSense", x, x.allSense(from, n), first);
        }
        T.check(39, "SEED stays", x.size(8), seed);
    }
}
