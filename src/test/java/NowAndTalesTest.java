/** Promises 6 to 17: pieces and houses now, TALES of some pieces. */
public final class NowAndTalesTest {
    private static final TestHelp T = new TestHelp();
    private static final int[] WRONG = {-1, Integer.MIN_VALUE, Integer.MAX_VALUE};
    /** TALES by numbers: 0 1 4, 0 2 1 4, 0 2 5, 0 3 5, 6 3 5. */
    private static final String SEVEN = "nurse kings 1 sleeps 0;piece a begins;piece b plain;"
            + "piece c plain;piece d king;piece e ends;piece f ends;piece g begins;"
            + "follows a b;follows a c;follows a d;follows c b;follows b e;follows c f;"
            + "follows d f;follows g d;follows a g;follows e f;follows b a";

    public static void main(String[] args) {
        piece();
        house();
        knownAndAlone();
        counts();
        longest();
        rows();
        bits();
        isTale();
        kings();
        withoutTerrace();
        T.end();
    }

    private static void piece() {
        TaleShares x = TestHelp.of(TestHelp.BASE);
        int[][] want = {{0, 6, 0, 1}, {1, 20, 1, 1}, {2, 24, 3, 2}, {2, 16, 4, 4}, {3, 0, 14, 2}};
        for (int p = 0; p < 5; p++) {
            for (int what = 0; what < 4; what++) {
                T.due(6, "piece(" + p + ", " + what + ")", x, x.piece(p, what), want[p][what]);
            }
            T.refused(6, "piece what 4", x, x.piece(p, 4), 1);
            T.refused(6, "piece what -1", x, x.piece(p, -1), 1);
        }
        T.refused(6, "piece(5, 0)", x, x.piece(5, 0), 1);
        for (int wrong : WRONG) {
            T.refused(6, "piece(" + wrong + ", 0)", x, x.piece(wrong, 0), 1);
            T.refused(6, "piece(0, " + wrong + ")", x, x.piece(0, wrong), 1);
        }
        x.learn(2, 0);
        T.due(6, "piece(0, 3)", x, x.piece(0, 3), 5);
    }

    private static void house() {
        TaleShares x = TestHelp.of(TestHelp.BASE);
        int[][] want = {{10, 1, 2, 3, 0, 0}, {30, 1, 3, 20, 0, 0}, {12, 2, 2, 8, 1, 0}};
        for (int h = 0; h < 3; h++) {
            for (int what = 0; what < 6; what++) {
                T.due(7, "house(" + h + ", " + what + ")", x, x.house(h, what), want[h][what]);
            }
            T.refused(7, "house what 6", x, x.house(h, 6), 1);
        }
        T.refused(7, "house(3, 0)", x, x.house(3, 0), 1);
        for (int wrong : WRONG) {
            T.refused(7, "house(" + wrong + ", 0)", x, x.house(wrong, 0), 1);
            T.refused(7, "house(0, " + wrong + ")", x, x.house(0, wrong), 1);
        }
        x.learn(0, 4);
        T.due(7, "KNOWS", x, x.house(0, 3), 19);
        T.due(7, "SENSE", x, x.house(0, 5), 1);
    }

    private static void knownAndAlone() {
        TaleShares x = TestHelp.of(TestHelp.BASE);
        T.due(8, "known", x, x.known(), 31);
        x.forget(2, 3);
        T.due(8, "known", x, x.known(), 23);
        x.learn(1, 0);
        T.due(9, "alone(0)", x, x.alone(0), 2);
        T.due(9, "alone(1)", x, x.alone(1), 20);
        T.due(9, "alone(2)", x, x.alone(2), 0);
        T.refused(9, "alone(3)", x, x.alone(3), 1);
        T.refused(9, "alone(-1)", x, x.alone(-1), 1);
        x = TestHelp.of(SEVEN);
        T.due(8, "known without houses", x, x.known(), 0);
        T.refused(9, "alone without houses", x, x.alone(0), 1);
    }

    private static void counts() {
        TaleShares x = TestHelp.of(SEVEN);
        T.due(10, "tales(127)", x, x.tales(127), 5);
        T.due(10, "tales(0)", x, x.tales(0), 0);
        T.due(10, "tales without d", x, x.tales(127 - 8), 3);
        T.due(10, "tales without f", x, x.tales(127 - 32), 2);
        T.due(10, "tales of g d f", x, x.tales(64 + 8 + 32), 1);
        T.refused(10, "tales(128)", x, x.tales(128), 1);
        T.refused(10, "tales(129)", x, x.tales(129), 1);
        T.refused(10, "tales(-1)", x, x.tales(-1), 1);
        T.refused(10, "tales(MIN)", x, x.tales(Integer.MIN_VALUE), 1);
        x = TestHelp.of("nurse kings 0 sleeps 0;piece a begins;piece b ends;follows b a");
        T.due(10, "a row that goes the other way", x, x.tales(3), 0);
        x = TestHelp.of("nurse kings 0 sleeps 0;piece a begins");
        T.due(10, "one piece", x, x.tales(1), 0);
        T.refused(10, "tales(2)", x, x.tales(2), 1);
    }

    private static void longest() {
        TaleShares x = TestHelp.of(SEVEN);
        T.due(11, "longest", x, x.longest(127), 4);
        T.due(11, "longest without b", x, x.longest(127 - 2), 3);
        T.due(11, "longest of none", x, x.longest(3), -2);
        T.refused(11, "longest(128)", x, x.longest(128), 1);
        int[] first = {0, 2, 1, 4};
        for (int i = 0; i < 4; i++) {
            T.due(12, "longestAt(127, " + i + ")", x, x.longestAt(127, i), first[i]);
        }
        T.refused(12, "longestAt 4", x, x.longestAt(127, 4), 1);
        T.refused(12, "longestAt -1", x, x.longestAt(127, -1), 1);
        T.refused(12, "longestAt there is none", x, x.longestAt(3, 0), 1);
        T.refused(12, "longestAt no such pieces", x, x.longestAt(128, 0), 1);
        T.due(12, "of like ones the first", x, x.longestAt(127 - 2, 0), 0);
        T.due(12, "of like ones the first", x, x.longestAt(127 - 2, 1), 2);
        T.due(12, "of like ones the first", x, x.longestAt(127 - 2, 2), 5);
    }

    private static void rows() {
        TaleShares x = TestHelp.of(SEVEN);
        int[][] tales = {{0, 1, 4}, {0, 2, 1, 4}, {0, 2, 5}, {0, 3, 5}, {6, 3, 5}};
        for (int k = 0; k < tales.length; k++) {
            for (int i = 0; i < tales[k].length; i++) {
                T.due(13, "taleAt(127, " + k + ", " + i + ")", x, x.taleAt(127, k, i), tales[k][i]);
            }
            T.refused(13, "taleAt i", x, x.taleAt(127, k, tales[k].length), 1);
            T.refused(13, "taleAt i -1", x, x.taleAt(127, k, -1), 1);
        }
        T.refused(13, "taleAt k", x, x.taleAt(127, 5, 0), 1);
        T.refused(13, "taleAt k -1", x, x.taleAt(127, -1, 0), 1);
        T.refused(13, "taleAt k MIN", x, x.taleAt(127, Integer.MIN_VALUE, 0), 1);
        T.refused(13, "taleAt pieces", x, x.taleAt(128, 0, 0), 1);
        T.due(13, "the first without b", x, x.taleAt(127 - 2, 0, 1), 2);
        T.due(13, "the last without a", x, x.taleAt(126, 0, 0), 6);
        T.refused(13, "no second without a", x, x.taleAt(126, 1, 0), 1);
    }

    private static void bits() {
        TaleShares x = TestHelp.of(SEVEN);
        T.due(14, "used", x, x.used(127), 127);
        T.due(14, "used without d", x, x.used(127 - 8), 1 + 2 + 4 + 16 + 32);
        T.due(14, "used of none", x, x.used(3), 0);
        T.refused(14, "used(128)", x, x.used(128), 1);
        T.due(15, "needed", x, x.needed(127), 0);
        T.due(15, "needed without d", x, x.needed(127 - 8), 1);
        T.due(15, "needed without c and d", x, x.needed(127 - 12), 19);
        T.due(15, "needed of none", x, x.needed(3), 0);
        T.refused(15, "needed(-5)", x, x.needed(-5), 1);
        T.due(16, "leftOver", x, x.leftOver(127), 3);
        T.due(16, "leftOver without b", x, x.leftOver(125), 3);
        T.due(16, "leftOver of a b e", x, x.leftOver(19), 0);
        T.due(16, "leftOver of none", x, x.leftOver(67), 3);
        T.due(16, "leftOver(0)", x, x.leftOver(0), 0);
        T.refused(16, "leftOver(128)", x, x.leftOver(128), 1);
    }

    private static void isTale() {
        TaleShares x = TestHelp.of(SEVEN);
        for (int row : new int[] {125, 1325, 136, 146, 746}) {
            T.due(17, "isTale(" + row + ")", x, x.isTale(row), 1);
        }
        for (int row : new int[] {1, 5, 12, 15, 25, 521, 1256, 1746, 17465, 1125, 135, 1236, 2147321,
            1325132511, 12125}) {
            T.due(17, "isTale(" + row + ")", x, x.isTale(row), 0);
        }
        for (int row : new int[] {0, -1, -125, Integer.MIN_VALUE, 8, 9, 10, 105, 1258, 8125, 1285,
            Integer.MAX_VALUE}) {
            T.refused(17, "isTale(" + row + ")", x, x.isTale(row), 2);
        }
    }

    private static void kings() {
        int[] counts = {1, 3, 5, 5, 5};
        for (int kings = 0; kings < counts.length; kings++) {
            TaleShares x = TestHelp.of("nurse kings " + kings + " sleeps 0;" + TestHelp.FIVE_PIECES);
            T.due(10, "tales by kings " + kings, x, x.tales(31), counts[kings]);
            T.due(17, "isTale(1345) by kings " + kings, x, x.isTale(1345), kings < 2 ? 0 : 1);
            T.due(11, "longest by kings " + kings, x, x.longest(31),
                    kings == 0 ? 3 : kings == 1 ? 4 : 5);
        }
    }

    private static void withoutTerrace() {
        TaleShares x = new TaleShares();
        T.refused(6, "piece", x, x.piece(0, 0), 1);
        T.refused(7, "house", x, x.house(0, 0), 1);
        T.refused(8, "known", x, x.known(), 1);
        T.refused(9, "alone", x, x.alone(0), 1);
        T.refused(10, "tales", x, x.tales(0), 1);
        T.refused(11, "longest", x, x.longest(0), 1);
        T.refused(12, "longestAt", x, x.longestAt(0, 0), 1);
        T.refused(13, "taleAt", x, x.taleAt(0, 0, 0), 1);
        T.refused(14, "used", x, x.used(0), 1);
        T.refused(15, "needed", x, x.needed(0), 1);
        T.refused(16, "leftOver", x, x.leftOver(0), 1);
        T.refused(17, "isTale(1)", x, x.isTale(1), 1);
        T.refused(17, "isTale(0)", x, x.isTale(0), 1);
    }
}
