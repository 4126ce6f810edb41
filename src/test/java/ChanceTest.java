/** Promises 31 to 40: the mixed row, two fathers, sleep by chance, evenings by draws. */
public final class ChanceTest {
    private static final TestHelp T = new TestHelp();
    private static final String PIECES = TestHelp.FIVE_PIECES + ";";

    public static void main(String[] args) {
        slips();
        noSlips();
        fathers();
        rests();
        sleep();
        mean();
        evenings();
        allSense();
        withoutTerrace();
        T.end();
    }

    private static void mixed(int kings, String row, int slips, int meanings, int... tale) {
        TaleShares x = TestHelp.of("nurse kings " + kings + " sleeps 5;" + PIECES + "mixed " + row);
        T.due(31, "slips " + row, x, x.slips(), slips);
        T.due(33, "meanings " + row, x, x.meanings(), meanings);
        for (int i = 0; i < tale.length; i++) {
            T.due(32, "meant " + row + " " + i, x, x.meant(i), tale[i]);
        }
        T.refused(32, "meant behind it", x, x.meant(tale.length), 1);
        T.refused(32, "meant(-1)", x, x.meant(-1), 1);
        T.refused(32, "meant(MIN)", x, x.meant(Integer.MIN_VALUE), 1);
    }

    private static void slips() {
        // by kings 2: a b c d e, a b c e, a b e, a c d e, a c e
        mixed(2, "a,b,c,d,e", 0, 1, 0, 1, 2, 3, 4);
        mixed(2, "a,b,d,e", 1, 4, 0, 1, 2, 3, 4);
        mixed(2, "e,d,c,b,a", 4, 5, 0, 1, 2, 3, 4);
        mixed(2, "a", 2, 2, 0, 1, 4);
        mixed(2, "c", 2, 1, 0, 2, 4);
        mixed(2, "d,d,d,d,d,d", 5, 2, 0, 1, 2, 3, 4);
        mixed(2, "e,a,c,e", 1, 1, 0, 2, 4);
        mixed(0, "a,b,c,d,e,e", 3, 1, 0, 1, 4);
        mixed(1, "a,e", 1, 2, 0, 1, 4);
    }

    private static void noSlips() {
        TaleShares x = TestHelp.of("nurse kings 0 sleeps 5;piece a begins;piece b ends;mixed a,b");
        T.due(31, "no TALE", x, x.slips(), -2);
        T.refused(32, "no TALE", x, x.meant(0), 1);
        T.due(33, "no TALE", x, x.meanings(), 0);
        x = TestHelp.of("nurse kings 0 sleeps 5;piece a begins;piece b ends;follows a b");
        T.refused(31, "none is mixed", x, x.slips(), 6);
        T.refused(32, "none is mixed", x, x.meant(0), 6);
        T.refused(32, "none is mixed", x, x.meant(7), 6);
        T.refused(33, "none is mixed", x, x.meanings(), 6);
    }

    private static void notPaid(TaleShares x, int worth, int one, int other, int trouble) {
        String call = "father(" + worth + ", " + one + ", " + other + ")";
        T.check(34, call, x.father(worth, one, other, false), -100);
        T.check(34, call + " trouble", x.trouble(), trouble);
        T.check(34, call + " other", x.father(worth, one, other, true), -100);
        T.check(34, call + " other trouble", x.trouble(), trouble);
    }

    private static void fathers() {
        TaleShares x = TestHelp.of(TestHelp.BASE);
        T.due(34, "alone", x, x.father(10, 6, 0, false), 6);
        T.due(34, "the other one", x, x.father(10, 6, 0, true), 0);
        T.due(34, "not heard", x, x.father(20, 5, 6, false), -5);
        T.due(34, "the other one alone", x, x.father(20, 5, 6, true), 16);
        T.due(34, "both", x, x.father(20, 0, 0, false), 20);
        T.due(34, "both, the other one", x, x.father(3, 6, 6, true), -3);
        T.due(34, "worth nothing", x, x.father(0, 1, 0, false), 1);
        notPaid(x, -1, 0, 0, 2);
        notPaid(x, 21, 0, 0, 2);
        notPaid(x, 5, -1, 0, 2);
        notPaid(x, 5, 7, 0, 2);
        notPaid(x, 5, 0, -1, 2);
        notPaid(x, 5, 0, 7, 2);
        notPaid(new TaleShares(), 5, 0, 0, 1);
        notPaid(new TaleShares(), 21, 0, 0, 1);
    }

    private static void rests() {
        TaleShares x = TestHelp.of(TestHelp.BASE);
        // Paying one more than the other is worth 1 more; only at 6 is there no more to pay, and
        // there hearing must be worth it. Worth nothing, one pays 1 and the other 0.
        for (int worth = 0; worth <= 20; worth++) {
            T.due(35, "rests(" + worth + ")", x, x.rests(worth), worth == 0 ? 2 : worth < 6 ? 0 : 1);
            T.due(36, "rest(" + worth + ")", x, x.rest(worth), worth == 0 ? 1 : worth < 6 ? -2 : 66);
        }
        for (int worth : new int[] {-1, 21, Integer.MIN_VALUE, Integer.MAX_VALUE}) {
            T.refused(35, "rests(" + worth + ")", x, x.rests(worth), 2);
            T.refused(36, "rest(" + worth + ")", x, x.rest(worth), 2);
        }
    }

    private static TaleShares sleepy(int sleeps) {
        return TestHelp.of("nurse kings 0 sleeps " + sleeps + ";piece a begins");
    }

    private static void likely(int sleeps, int n, int many, long upper, long lower) {
        TaleShares x = sleepy(sleeps);
        String call = "tells(" + n + ", " + many + ") by " + sleeps;
        T.due(37, call, x, x.tells(n, many, false), upper);
        T.due(37, call + " lower", x, x.tells(n, many, true), lower);
    }

    private static void sleep() {
        likely(50, 8, 8, 1, 256);
        likely(50, 8, 7, 1, 256);
        likely(50, 8, 0, 1, 2);
        likely(25, 3, 1, 3, 16);
        likely(25, 3, 3, 27, 64);
        likely(1, 8, 7, 93206534790699L, 10000000000000000L);
        likely(1, 8, 8, 9227446944279201L, 10000000000000000L);
        likely(99, 8, 8, 1, 10000000000000000L);
        likely(0, 8, 7, 0, 1);
        likely(0, 8, 8, 1, 1);
        likely(100, 8, 0, 1, 1);
        likely(100, 8, 3, 0, 1);
        likely(100, 8, 8, 0, 1);
        likely(100, 0, 0, 1, 1);
        likely(37, 0, 0, 1, 1);
        TaleShares x = sleepy(50);
        int[][] wrong = {{-1, 0}, {9, 0}, {3, -1}, {3, 4}, {0, 1}, {8, 9},
            {Integer.MIN_VALUE, 0}, {Integer.MAX_VALUE, 1}, {4, Integer.MAX_VALUE}};
        for (int[] w : wrong) {
            T.refused(37, "tells(" + w[0] + ", " + w[1] + ")", x, x.tells(w[0], w[1], false), 2);
            T.refused(37, "tells(" + w[0] + ", " + w[1] + ")", x, x.tells(w[0], w[1], true), 2);
        }
    }

    private static void meant(int sleeps, int n, long upper, long lower) {
        TaleShares x = sleepy(sleeps);
        T.due(38, "mean(" + n + ") by " + sleeps, x, x.mean(n, false), upper);
        T.due(38, "mean(" + n + ") by " + sleeps + " lower", x, x.mean(n, true), lower);
    }

    private static void mean() {
        meant(50, 1, 1, 2);
        meant(50, 3, 7, 8);
        meant(50, 8, 255, 256);
        meant(0, 8, 8, 1);
        meant(0, 0, 0, 1);
        meant(50, 0, 0, 1);
        meant(100, 8, 0, 1);
        meant(20, 2, 36, 25);
        // 99 times (100^8 - 99^8), by 100^8
        meant(1, 8, 76482752516359101L, 10000000000000000L);
        TaleShares x = sleepy(50);
        for (int n : new int[] {-1, 9, Integer.MIN_VALUE, Integer.MAX_VALUE}) {
            T.refused(38, "mean(" + n + ")", x, x.mean(n, false), 2);
            T.refused(38, "mean(" + n + ") lower", x, x.mean(n, true), 2);
        }
    }

    private static void evenings() {
        TaleShares x = TestHelp.of(TestHelp.BASE);
        // From SEED 0: 74 24 | 28652 51790 17641 | .. by sleeps 50, of the TALE a b c e
        T.due(39, "no evening", x, x.evenings(0, 0, 0), 3);
        T.due(39, "no evening", x, x.evenings(2, 0, 0), 8);
        T.due(39, "the first is house 0's", x, x.evenings(1, 0, 1), 20);
        T.due(39, "the second is house 1's", x, x.evenings(1, 0, 2), 23);
        T.due(39, "house 2 then", x, x.evenings(2, 0, 2), 8);
        T.due(39, "many", x, x.evenings(2, 65536, 60), bySum(2, 65536, 60, 8));
        T.due(39, "many", x, x.evenings(0, 31, 60), bySum(0, 31, 60, 3));
        T.check(39, "nothing is changed", x.house(1, 3), 20);
        T.check(39, "nothing is changed", x.size(8), 0);
        T.check(39, "no ACT", x.size(9), 0);
        int[][] wrong = {{0, -1, 0}, {0, 65537, 0}, {0, 0, -1}, {0, 0, 61},
            {0, Integer.MIN_VALUE, 5}, {0, 5, Integer.MAX_VALUE}};
        for (int[] w : wrong) {
            T.refused(39, "evenings", x, x.evenings(w[0], w[1], w[2]), 2);
            T.refused(40, "allSense", x, x.allSense(w[1], w[2]), 2);
        }
        T.refused(39, "evenings(3, 0, 0)", x, x.evenings(3, 0, 0), 1);
        T.refused(39, "evenings(-1, -1, 0)", x, x.evenings(-1, -1, 0), 1);
        x = TestHelp.of("nurse kings 0 sleeps 5;piece a begins;house h at 0 from 0 to 0;heard h a");
        T.due(39, "no TALE", x, x.evenings(0, 3, 60), 1);
        T.due(40, "no TALE", x, x.allSense(3, 60), 0);
    }

    /** Evenings of the base's TALE a b c e at its three houses, told once more. */
    private static int bySum(int h, int seed, int n, int knows) {
        int[] tale = {0, 1, 2, 4};
        long draw = seed;
        int then = knows;
        for (int k = 0; k < n; k++) {
            for (int piece : tale) {
                draw = (75 * draw + 74) % 65537;
                if (draw % 100 < 50) {
                    break;
                }
                then |= k % 3 == h ? 1 << piece : 0;
            }
        }
        return then;
    }

    private static void allSense() {
        String two = "house g at 0 from 0 to 0;house h at 0 from 0 to 0;house i at 0 from 0 to 0";
        TaleShares x = TestHelp.of("nurse kings 1 sleeps 0;" + PIECES + two);
        T.due(40, "by the third", x, x.allSense(9, 60), 3);
        T.due(40, "by the third", x, x.allSense(9, 3), 3);
        T.due(40, "not by the second", x, x.allSense(9, 2), 0);
        T.due(40, "none", x, x.allSense(9, 0), 0);
        x.evening(0);
        x.evening(1);
        x.evening(2);
        T.due(40, "NOW aside", x, x.allSense(9, 0), 0);
        T.due(40, "behind the first", x, x.allSense(9, 1), 1);
        x = TestHelp.of("nurse kings 1 sleeps 100;" + PIECES + two + ";heard g a;heard g b;heard g e");
        T.due(40, "she sleeps", x, x.allSense(9, 60), 0);
        T.due(39, "she sleeps", x, x.evenings(0, 9, 60), 19);
        x = TestHelp.of("nurse kings 1 sleeps 100;" + PIECES + "mixed a");
        T.refused(40, "no house", x, x.allSense(0, 0), 1);
        T.refused(40, "no house", x, x.allSense(-1, 0), 1);
    }

    private static void withoutTerrace() {
        TaleShares x = new TaleShares();
        T.refused(31, "slips", x, x.slips(), 1);
        T.refused(32, "meant", x, x.meant(0), 1);
        T.refused(33, "meanings", x, x.meanings(), 1);
        T.refused(35, "rests", x, x.rests(5), 1);
        T.refused(35, "rests(21)", x, x.rests(21), 1);
        T.refused(36, "rest", x, x.rest(5), 1);
        T.refused(37, "tells", x, x.tells(0, 0, false), 1);
        T.refused(37, "tells(9)", x, x.tells(9, 0, false), 1);
        T.refused(38, "mean", x, x.mean(0, true), 1);
        T.refused(39, "evenings", x, x.evenings(0, 0, 0), 1);
        T.refused(40, "allSense", x, x.allSense(0, 0), 1);
        T.refused(40, "allSense(-1)", x, x.allSense(-1, 0), 1);
    }
}
