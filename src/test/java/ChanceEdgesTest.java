/** Promises 31 to 40, sentence by sentence, on both sides of each boundary. */
public final class ChanceEdgesTest {
    private static final TestHelp T = new TestHelp();
    private static final int MIN = Integer.MIN_VALUE;
    private static final int MAX = Integer.MAX_VALUE;
    private static final long HUNDRED_TO_8TH = 10_000_000_000_000_000L;
    /** The TALES are a b and a c b. */
    private static final String THREE = "piece a begins;piece b ends;piece c plain;follows a b;"
            + "follows a c;follows c b";
    private static final String NO_TALE = "piece a begins;piece b ends";

    public static void main(String[] args) {
        slips();
        meant();
        meanings();
        father();
        rests();
        rest();
        tells();
        tellsRefused();
        mean();
        evenings();
        eveningsRefused();
        allSense();
        T.end();
    }

    private static TaleShares by(int sleeps, String lines) {
        return TestHelp.of("nurse kings 1 sleeps " + sleeps + ";" + lines);
    }

    private static void slips() {
        T.says(31, "SLIPS: how many; -2 there is no TALE.");
        TaleShares x = by(0, THREE + ";mixed a,b");
        T.due(31, "none", x, x.slips(), 0);
        x = by(0, THREE + ";mixed c,c,c,c,c,c");
        T.due(31, "of six the most: one c of a c b stays", x, x.slips(), 5);
        x = by(0, NO_TALE + ";mixed a,b");
        T.due(31, "no TALE", x, x.slips(), -2);
        x = by(0, NO_TALE + ";follows a b;mixed a,b");
        T.due(31, "one TALE", x, x.slips(), 0);
        T.says(31, "NONE: 1 (no TERRACE); 6 (none is mixed).");
        x = new TaleShares();
        T.refused(31, "no TERRACE", x, x.slips(), 1);
        TestHelp.tell(x, TestHelp.NURSE + THREE);
        T.refused(31, "none is mixed", x, x.slips(), 6);
        TestHelp.tell(x, TestHelp.NURSE + NO_TALE);
        T.refused(31, "none is mixed, no TALE", x, x.slips(), 6);
        TestHelp.tell(x, TestHelp.NURSE + THREE + ";mixed c");
        T.due(31, "one is mixed: a and b are put in", x, x.slips(), 2);
    }

    private static void meant() {
        T.says(32, "The i-th piece of the TALE.");
        TaleShares x = by(0, THREE + ";mixed a,c,b");
        int[] tale = {0, 2, 1};
        for (int i = 0; i < 3; i++) {
            T.due(32, "meant(" + i + ")", x, x.meant(i), tale[i]);
        }
        for (String row : new String[] {"a,b,c,d,e,f", "b,c,d,e,f,g", "c,d,e,f,g,h", "a,b,c,f,g,h"}) {
            x = eight(row);
            T.due(31, "two of eight put in", x, x.slips(), 2);
            T.due(32, "the eighth", x, x.meant(7), 7);
        }
        x = eight("a,h");
        T.due(31, "six of eight put in", x, x.slips(), 6);
        x = eight("a");
        T.due(31, "seven of eight put in", x, x.slips(), 7);
        x = by(0, THREE + ";mixed a,c,b");
        TaleShares eight = eight("h,h,h,h,h,h");
        T.due(32, "the eighth", eight, eight.meant(7), 7);
        T.due(31, "one stays, five are put in place, two put in", eight, eight.slips(), 7);
        T.says(32, "NONE: 1 (no TERRACE; i, too; there is none); 6.");
        for (int wrong : new int[] {-1, 3, 4, MIN, MAX}) {
            T.refused(32, "meant(" + wrong + ")", x, x.meant(wrong), 1);
        }
        T.refused(32, "meant(8)", eight, eight.meant(8), 1);
        x = by(0, THREE + ";mixed a,b");
        T.due(32, "meant(1) of two", x, x.meant(1), 1);
        T.refused(32, "meant(2) of two", x, x.meant(2), 1);
        x = by(0, NO_TALE + ";mixed a,b");
        T.refused(32, "there is none", x, x.meant(0), 1);
        x = by(0, THREE);
        T.refused(32, "none is mixed", x, x.meant(0), 6);
        x = new TaleShares();
        T.refused(32, "no TERRACE", x, x.meant(0), 1);
    }

    /** One TALE, of all eight pieces. */
    private static TaleShares eight(String mixed) {
        return by(0, "piece a begins;piece b plain;piece c plain;piece d plain;piece e plain;"
                + "piece f plain;piece g plain;piece h ends;follows a b;follows b c;follows c d;"
                + "follows d e;follows e f;follows f g;follows g h;mixed " + mixed);
    }

    private static void meanings() {
        T.says(33, "TALES with as few SLIPS: how many.");
        TaleShares x = by(0, THREE + ";mixed a,b");
        T.due(33, "one", x, x.meanings(), 1);
        x = by(0, THREE + ";mixed a,a,b");
        T.due(33, "one left out or put in place: both", x, x.meanings(), 2);
        x = by(0, NO_TALE + ";mixed a");
        T.due(33, "no TALE", x, x.meanings(), 0);
        x = TestHelp.of(TestHelp.FULL.replace("mixed p,w,w,p,q,w", "mixed q,q,q,q,q,q"));
        // By q all from p q on: 5 for those of up to six, as by one of seven pieces 6.
        T.due(33, "many", x, x.meanings(), countByQ());
        T.says(33, "NONE: 1 (no TERRACE); 6.");
        x = by(0, THREE);
        T.refused(33, "none is mixed", x, x.meanings(), 6);
        x = new TaleShares();
        T.refused(33, "no TERRACE", x, x.meanings(), 1);
    }

    /**
     * A row of six q becomes a TALE of n pieces by max(6, n) slips, one fewer if q is in it: five
     * by those with q of four to six pieces. From q: t u w, t v w, s u w, s v w, s t u w, s t v w,
     * and the same six behind r; the two of r s t have seven pieces in all.
     */
    private static int countByQ() {
        return 6 + 6 - 2;
    }

    private static void father() {
        T.says(34, "What the one (or other, the other one) has by what both pay (0 .. 6) for what is"
                + " worth so much (0 .. 20).");
        TaleShares x = by(0, THREE);
        int[][] paid = {{0, 0}, {0, 6}, {6, 0}, {6, 6}, {5, 6}, {6, 5}};
        int[][] has = {{0, 0}, {0, -4}, {-4, 0}, {-6, -6}, {-5, -4}, {-4, -5}};
        for (int k = 0; k < paid.length; k++) {
            int one = paid[k][0];
            int other = paid[k][1];
            T.due(34, "worth 0, the one", x, x.father(0, one, other, false), has[k][0]);
            T.due(34, "worth 0, the other one", x, x.father(0, one, other, true), has[k][1]);
            T.due(34, "worth 20, the one", x, x.father(20, one, other, false),
                    has[k][0] + (one >= other ? 20 : 0));
            T.due(34, "worth 20, the other one", x, x.father(20, one, other, true),
                    has[k][1] + (other >= one ? 20 : 0));
        }
        T.says(34, "-100: 1 (no TERRACE); 2.");
        int[][] wrong = {{-1, 0, 0}, {21, 0, 0}, {0, -1, 0}, {0, 7, 0}, {0, 0, -1}, {0, 0, 7}, {20, 7, 6},
            {20, 6, 7}, {MIN, 0, 0}, {MAX, 0, 0}, {5, MIN, 0}, {5, MAX, 0}, {5, 0, MIN}, {5, 0, MAX}};
        TaleShares none = new TaleShares();
        for (int[] w : wrong) {
            for (boolean ofOther : new boolean[] {false, true}) {
                T.check(34, "father", x.father(w[0], w[1], w[2], ofOther), -100);
                T.check(34, "father " + w[0] + " " + w[1] + " " + w[2], x.trouble(), 2);
                T.check(34, "no TERRACE", none.father(w[0], w[1], w[2], ofOther), -100);
                T.check(34, "no TERRACE", none.trouble(), 1);
            }
        }
        T.check(34, "no TERRACE", none.father(20, 6, 6, false), -100);
        T.check(34, "no TERRACE", none.trouble(), 1);
    }

    private static void refusedWorths(int promise) {
        TaleShares x = by(0, THREE);
        TaleShares none = new TaleShares();
        for (int worth : new int[] {-1, 21, 22, MIN, MAX}) {
            T.refused(promise, "worth " + worth, x, promise == 35 ? x.rests(worth) : x.rest(worth), 2);
            T.refused(promise, "no TERRACE", none,
                    promise == 35 ? none.rests(worth) : none.rest(worth), 1);
        }
        T.refused(promise, "no TERRACE", none, promise == 35 ? none.rests(20) : none.rest(20), 1);
    }

    private static void rests() {
        T.says(35, "How many RESTS.");
        TaleShares x = by(0, THREE);
        // Worth 1 to 5: who pays less than 6 is outbid by 1 for 1 more; at 6 it isn't worth it.
        int[] want = {2, 0, 0, 0, 0, 0, 1, 1, 1, 1, 1, 1, 1, 1, 1, 1, 1, 1, 1, 1, 1};
        for (int worth = 0; worth <= 20; worth++) {
            T.due(35, "rests(" + worth + ")", x, x.rests(worth), want[worth]);
        }
        T.says(35, "NONE: 1 (no TERRACE); 2.");
        refusedWorths(35);
    }

    private static void rest() {
        T.says(36, "The first, by what the one pays, then the other one: 10 times and; -2.");
        TaleShares x = by(0, THREE);
        T.due(36, "worth 0: 0 and 1 is ahead of 1 and 0", x, x.rest(0), 1);
        T.due(36, "worth 1", x, x.rest(1), -2);
        T.due(36, "worth 5", x, x.rest(5), -2);
        T.due(36, "worth 6", x, x.rest(6), 66);
        T.due(36, "worth 20", x, x.rest(20), 66);
        T.says(36, "NONE: likewise.");
        refusedWorths(36);
    }

    private static void likely(TaleShares x, int n, int many, long upper, long lower) {
        String call = "tells(" + n + ", " + many + ")";
        T.due(37, call, x, x.tells(n, many, false), upper);
        T.due(37, call + " lower", x, x.tells(n, many, true), lower);
    }

    private static void tells() {
        T.says(37, "How likely she tells just so many (0 .. n) pieces of a TALE of n (0 .. 8),");
        TaleShares x = by(50, THREE);
        likely(x, 0, 0, 1, 1);
        likely(x, 1, 0, 1, 2);
        likely(x, 1, 1, 1, 2);
        likely(x, 8, 0, 1, 2);
        likely(x, 8, 7, 1, 256);
        likely(x, 8, 8, 1, 256);
        x = by(99, THREE);
        likely(x, 8, 8, 1, HUNDRED_TO_8TH);
        likely(x, 8, 7, 99, HUNDRED_TO_8TH);
        T.says(37, "the upper WHOLE or the lower, in lowest terms (0 by 1).");
        likely(x, 1, 0, 99, 100);
        x = by(1, THREE);
        likely(x, 8, 8, 9227446944279201L, HUNDRED_TO_8TH);
        likely(x, 1, 1, 99, 100);
        x = by(20, THREE);
        likely(x, 1, 0, 1, 5);
        likely(x, 2, 1, 4, 25);
        likely(x, 8, 8, 65536, 390625);
        x = by(0, THREE);
        likely(x, 8, 7, 0, 1);
        likely(x, 8, 0, 0, 1);
        likely(x, 8, 8, 1, 1);
        x = by(100, THREE);
        likely(x, 8, 0, 1, 1);
        likely(x, 8, 1, 0, 1);
        likely(x, 8, 8, 0, 1);
        likely(x, 0, 0, 1, 1);
    }

    private static void tellsRefused() {
        T.says(37, "-1: 1 (no TERRACE); 2.");
        TaleShares x = by(50, THREE);
        TaleShares none = new TaleShares();
        int[][] wrong = {{-1, 0}, {-1, -1}, {9, 0}, {9, 9}, {0, -1}, {0, 1}, {8, -1}, {8, 9}, {1, 2},
            {MIN, 0}, {MAX, 0}, {MAX, MAX}, {8, MIN}, {8, MAX}};
        for (int[] w : wrong) {
            for (boolean lower : new boolean[] {false, true}) {
                String call = "tells(" + w[0] + ", " + w[1] + ")";
                T.refused(37, call, x, x.tells(w[0], w[1], lower), 2);
                T.refused(37, call + " without TERRACE", none, none.tells(w[0], w[1], lower), 1);
            }
        }
        T.refused(37, "no TERRACE", none, none.tells(8, 8, false), 1);
        T.refused(37, "no TERRACE", none, none.tells(0, 0, true), 1);
    }

    private static void meanOf(TaleShares x, int n, long upper, long lower) {
        T.due(38, "mean(" + n + ")", x, x.mean(n, false), upper);
        T.due(38, "mean(" + n + ") lower", x, x.mean(n, true), lower);
    }

    private static void mean() {
        T.says(38, "The mean of how many she tells, likewise.");
        TaleShares x = by(50, THREE);
        meanOf(x, 0, 0, 1);
        meanOf(x, 1, 1, 2);
        meanOf(x, 2, 3, 4);
        meanOf(x, 8, 255, 256);
        x = by(1, THREE);
        meanOf(x, 8, 76482752516359101L, HUNDRED_TO_8TH);
        x = by(0, THREE);
        meanOf(x, 8, 8, 1);
        meanOf(x, 0, 0, 1);
        x = by(100, THREE);
        meanOf(x, 8, 0, 1);
        x = by(20, THREE);
        meanOf(x, 1, 4, 5);
        meanOf(x, 2, 36, 25);
        T.says(38, "-1: 1 (no TERRACE); 2.");
        TaleShares none = new TaleShares();
        for (int n : new int[] {-1, 9, 10, MIN, MAX}) {
            for (boolean lower : new boolean[] {false, true}) {
                T.refused(38, "mean(" + n + ")", x, x.mean(n, lower), 2);
                T.refused(38, "mean(" + n + ") without TERRACE", none, none.mean(n, lower), 1);
            }
        }
        T.refused(38, "no TERRACE", none, none.mean(0, false), 1);
        T.refused(38, "no TERRACE", none, none.mean(8, true), 1);
    }

    private static final String TWO = "piece a begins;piece b ends;follows a b;";
    private static final String HOUSE = "house h at 0 from 0 to 0";

    private static void evenings() {
        T.says(39, "n EVENINGS (0 .. 60) by a SEED (0 .. 65,536) from NOW, of houses by turns from"
                + " the first on: what a house KNOWS then.");
        // By sleeps 75, from SEED 214 she tells all of a b at the 60th evening first.
        TaleShares x = by(75, TWO + HOUSE);
        T.due(39, "none", x, x.evenings(0, 214, 0), 0);
        T.due(39, "59", x, x.evenings(0, 214, 59), 1);
        T.due(39, "60", x, x.evenings(0, 214, 60), 3);
        T.due(39, "from 279 it would be the 61st", x, x.evenings(0, 279, 60), 1);
        x = by(36, TWO + HOUSE);
        T.due(39, "SEED 65536: 36 each time", x, x.evenings(0, 65536, 1), 3);
        T.due(39, "SEED 0: 74, 24", x, x.evenings(0, 0, 1), 1);
        x = by(37, TWO + HOUSE);
        T.due(39, "SEED 65536: 36 each time", x, x.evenings(0, 65536, 60), 0);
        x = by(0, TWO + lines(5));
        for (int n = 0; n <= 6; n++) {
            for (int h = 0; h < 5; h++) {
                T.due(39, n + " evenings, house " + h, x, x.evenings(h, 7, n), h < n ? 3 : 0);
            }
        }
        TaleShares y = by(0, TWO + lines(2) + ";silent g;silent h");
        T.due(39, "a silent house hears", y, y.evenings(1, 7, 2), 3);
        T.due(40, "silent houses hear", y, y.allSense(7, 2), 2);
        x.learn(4, 1);
        T.due(39, "from NOW", x, x.evenings(4, 7, 4), 2);
        T.check(39, "SEED stays", x.size(8), 0);
        T.due(39, "NOW stays", x, x.house(0, 3), 0);
    }

    private static String lines(int houses) {
        StringBuilder text = new StringBuilder();
        for (int h = 0; h < houses; h++) {
            text.append(h == 0 ? "" : ";").append("house ").append((char) ('g' + h));
            text.append(" at 0 from 0 to 9");
        }
        return text.toString();
    }

    private static final int[][] WRONG = {{-1, 0}, {65537, 0}, {MIN, 0}, {MAX, 0}, {0, -1}, {0, 61},
        {0, MIN}, {0, MAX}, {65536, 61}, {65537, 60}};

    private static void eveningsRefused() {
        T.says(39, "NONE: 1; 2.");
        TaleShares x = by(50, TWO + lines(2));
        TaleShares none = new TaleShares();
        T.due(39, "the edges", x, x.evenings(1, 65536, 60), x.evenings(1, 65536, 60));
        for (int[] w : WRONG) {
            T.refused(39, "evenings(0, " + w[0] + ", " + w[1] + ")", x, x.evenings(0, w[0], w[1]), 2);
            T.refused(39, "no house 2", x, x.evenings(2, w[0], w[1]), 1);
            T.refused(39, "no TERRACE", none, none.evenings(0, w[0], w[1]), 1);
        }
        for (int wrong : new int[] {-1, 2, 3, MIN, MAX}) {
            T.refused(39, "evenings(" + wrong + ", 0, 0)", x, x.evenings(wrong, 0, 0), 1);
        }
        x = by(50, THREE);
        T.refused(39, "no house", x, x.evenings(0, 0, 0), 1);
        T.refused(39, "no TERRACE", none, none.evenings(0, 0, 0), 1);
    }

    private static void allSense() {
        T.says(40, "Behind which of them (1, 2, ..) all houses have SENSE first; 0 behind none (NOW aside).");
        TaleShares x = by(75, TWO + HOUSE);
        T.due(40, "the 60th", x, x.allSense(214, 60), 60);
        T.due(40, "not the 59th", x, x.allSense(214, 59), 0);
        T.due(40, "it would be the 61st", x, x.allSense(279, 60), 0);
        x = by(0, TWO + lines(5));
        T.due(40, "the fifth", x, x.allSense(0, 60), 5);
        T.due(40, "the fifth", x, x.allSense(65536, 5), 5);
        T.due(40, "not the fourth", x, x.allSense(65536, 4), 0);
        for (int h = 0; h < 4; h++) {
            x.evening(h);
        }
        T.due(40, "the last house lacks it", x, x.allSense(0, 60), 5);
        x.evening(4);
        T.due(40, "NOW aside: the first", x, x.allSense(0, 60), 1);
        T.due(40, "NOW aside: none", x, x.allSense(0, 0), 0);
        x = by(0, NO_TALE + ";" + HOUSE);
        T.due(40, "no TALE", x, x.allSense(0, 60), 0);
        T.says(40, "NONE: 1 (no TERRACE, no house); 2.");
        x = by(0, TWO + HOUSE);
        TaleShares none = new TaleShares();
        TaleShares noHouse = by(0, THREE);
        for (int[] w : WRONG) {
            T.refused(40, "allSense(" + w[0] + ", " + w[1] + ")", x, x.allSense(w[0], w[1]), 2);
            T.refused(40, "no house", noHouse, noHouse.allSense(w[0], w[1]), 1);
            T.refused(40, "no TERRACE", none, none.allSense(w[0], w[1]), 1);
        }
        T.due(40, "the edges", x, x.allSense(65536, 60), 1);
        T.refused(40, "no house", noHouse, noHouse.allSense(0, 0), 1);
        T.refused(40, "no TERRACE", none, none.allSense(0, 0), 1);
    }
}
