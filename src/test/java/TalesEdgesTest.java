/** Promises 6 to 17, sentence by sentence, on both sides of each boundary. */
public final class TalesEdgesTest {
    private static final TestHelp T = new TestHelp();
    private static final int MIN = Integer.MIN_VALUE;
    private static final int MAX = Integer.MAX_VALUE;
    /** Eight pieces, each behind the one ahead of it: one TALE, of all. */
    private static final String EIGHT = "nurse kings 0 sleeps 0;piece a begins;piece b plain;"
            + "piece c plain;piece d plain;piece e plain;piece f plain;piece g plain;piece h ends;"
            + "follows a b;follows b c;follows c d;follows d e;follows e f;follows f g;follows g h";
    /**
     * The most TALES that a search found, 40: of e on 4 (2 behind f, 2 at once), of f on 2, of c on 4
     * and 2 and, by d, 4; of d on 4 and, by c, 6; so 20 for each that begins.
     */
    private static final String MOST_TALES = "nurse kings 0 sleeps 0;piece a begins;piece b begins;"
            + "piece c plain;piece d plain;piece e plain;piece f plain;piece g ends;piece h ends;"
            + "follows a c;follows a d;follows b c;follows b d;follows c d;follows c e;follows c f;"
            + "follows d c;follows d e;follows e f;follows e g;follows e h;follows f g;follows f h";
    private static final String NO_HOUSE = "nurse kings 0 sleeps 0;piece a begins";

    public static void main(String[] args) {
        piece();
        house();
        known();
        alone();
        tales();
        longest();
        longestAt();
        taleAt();
        usedAndNeeded();
        leftOver();
        isTale();
        T.end();
    }

    private static void piece() {
        TaleShares x = TestHelp.of(TestHelp.FULL);
        T.says(6, "Of a piece 0 KIND (0 begins, 1 plain, 2 king, 3 ends),");
        int[] kinds = {0, 1, 1, 2, 2, 2, 2, 3};
        for (int p = 0; p < 8; p++) {
            T.due(6, "KIND of " + p, x, x.piece(p, 0), kinds[p]);
        }
        T.says(6, "1 pieces that may follow it, as bits,");
        int[] behind = {2 + 4, 4 + 8 + 16, 8 + 16, 16 + 32 + 64, 32 + 64, 128, 128, 0};
        for (int p = 0; p < 8; p++) {
            T.due(6, "behind " + p, x, x.piece(p, 1), behind[p]);
        }
        T.says(6, "2 those it may follow, as bits,");
        int[] ahead = {0, 1, 1 + 2, 2 + 4, 2 + 4 + 8, 8 + 16, 8 + 16, 32 + 64};
        for (int p = 0; p < 8; p++) {
            T.due(6, "ahead of " + p, x, x.piece(p, 2), ahead[p]);
        }
        T.says(6, "3 houses that KNOW it, as bits.");
        int[] who = {1 + 4, 1 + 4, 1, 1, 1 + 8, 1 + 4, 1 + 2, 2 + 4};
        for (int p = 0; p < 8; p++) {
            T.due(6, "who KNOW " + p, x, x.piece(p, 3), who[p]);
        }
        x.learn(4, 7);
        x.forget(1, 7);
        T.due(6, "NOW", x, x.piece(7, 3), 4 + 16);
        T.says(6, "NONE: 1.");
        for (int wrong : new int[] {-1, 8, 9, 32, 33, MIN, MAX}) {
            T.refused(6, "piece(" + wrong + ", 0)", x, x.piece(wrong, 0), 1);
            T.refused(6, "piece(" + wrong + ", 3)", x, x.piece(wrong, 3), 1);
        }
        for (int wrong : new int[] {-1, 4, 5, MIN, MAX}) {
            T.refused(6, "piece(0, " + wrong + ")", x, x.piece(0, wrong), 1);
            T.refused(6, "piece(7, " + wrong + ")", x, x.piece(7, wrong), 1);
        }
        x = TestHelp.of(NO_HOUSE);
        T.due(6, "the only piece", x, x.piece(0, 3), 0);
        T.refused(6, "piece(1, 0)", x, x.piece(1, 0), 1);
        x = new TaleShares();
        T.refused(6, "no TERRACE", x, x.piece(0, 0), 1);
    }

    private static void house() {
        TaleShares x = TestHelp.of(TestHelp.FULL);
        T.says(7, "Of a house 0 its place, 1 from, 2 to,");
        int[][] told = {{0, 0, 23}, {99, 23, 23}, {1, 0, 0}, {98, 1, 22}, {50, 2, 3}};
        for (int h = 0; h < 5; h++) {
            for (int what = 0; what < 3; what++) {
                T.due(7, "house(" + h + ", " + what + ")", x, x.house(h, what), told[h][what]);
            }
        }
        T.says(7, "3 KNOWS, as bits,");
        int[] knows = {127, 64 + 128, 1 + 2 + 32 + 128, 16, 0};
        for (int h = 0; h < 5; h++) {
            T.due(7, "KNOWS of " + h, x, x.house(h, 3), knows[h]);
        }
        T.says(7, "4 1 if it is silent,");
        for (int h = 0; h < 5; h++) {
            T.due(7, "silent " + h, x, x.house(h, 4), 1);
        }
        TaleShares base = TestHelp.of(TestHelp.BASE);
        T.due(7, "not silent", base, base.house(0, 4), 0);
        T.due(7, "not silent", base, base.house(1, 4), 0);
        T.due(7, "silent", base, base.house(2, 4), 1);
        T.says(7, "5 1 if it has SENSE.");
        for (int h = 0; h < 5; h++) {
            T.due(7, "SENSE of " + h, x, x.house(h, 5), 0);
        }
        x.learn(0, 7);
        T.due(7, "SENSE of 0", x, x.house(0, 5), 1);
        x.learn(2, 4);
        T.due(7, "SENSE of 2: p q t u w", x, x.house(2, 5), 1);
        T.says(7, "NONE: 1.");
        for (int wrong : new int[] {-1, 5, 6, 31, 32, MIN, MAX}) {
            T.refused(7, "house(" + wrong + ", 0)", x, x.house(wrong, 0), 1);
            T.refused(7, "house(" + wrong + ", 5)", x, x.house(wrong, 5), 1);
        }
        for (int wrong : new int[] {-1, 6, 7, MIN, MAX}) {
            T.refused(7, "house(0, " + wrong + ")", x, x.house(0, wrong), 1);
            T.refused(7, "house(4, " + wrong + ")", x, x.house(4, wrong), 1);
        }
        x = TestHelp.of(NO_HOUSE);
        T.refused(7, "no house", x, x.house(0, 0), 1);
        x = new TaleShares();
        T.refused(7, "no TERRACE", x, x.house(0, 0), 1);
    }

    private static void known() {
        T.says(8, "Pieces that some house KNOWS, as bits.");
        TaleShares x = TestHelp.of(TestHelp.FULL);
        T.due(8, "all", x, x.known(), 255);
        x.forget(1, 7);
        T.due(8, "c KNOWS w too", x, x.known(), 255);
        x.forget(2, 7);
        T.due(8, "without w", x, x.known(), 127);
        x.learn(4, 7);
        T.due(8, "e KNOWS w", x, x.known(), 255);
        x = TestHelp.of(NO_HOUSE);
        T.due(8, "no house", x, x.known(), 0);
        T.says(8, "NONE: 1 (no TERRACE).");
        x = new TaleShares();
        T.refused(8, "no TERRACE", x, x.known(), 1);
        TestHelp.tell(x, NO_HOUSE);
        T.due(8, "a TERRACE", x, x.known(), 0);
    }

    private static void alone() {
        T.says(9, "Pieces that a house KNOWS and no other one, as bits.");
        TaleShares x = TestHelp.of(TestHelp.FULL);
        int[] alone = {4 + 8, 0, 0, 0, 0};
        for (int h = 0; h < 5; h++) {
            T.due(9, "alone(" + h + ")", x, x.alone(h), alone[h]);
        }
        x.forget(1, 7);
        T.due(9, "c alone KNOWS w", x, x.alone(2), 128);
        x.learn(4, 7);
        T.due(9, "c and e KNOW w", x, x.alone(2), 0);
        T.due(9, "c and e KNOW w", x, x.alone(4), 0);
        x.forget(2, 7);
        T.due(9, "e alone KNOWS w", x, x.alone(4), 128);
        x = TestHelp.of(TestHelp.FULL.replaceAll("heard . .;", ""));
        for (int h = 0; h < 5; h++) {
            for (int p = 0; p < 8; p++) {
                x.learn(h, p);
            }
            T.due(9, "house " + h + " alone KNOWS all", x, x.alone(h), 255);
            x.learn((h + 1) % 5, 0);
            T.due(9, "another one KNOWS p", x, x.alone(h), 254);
            x.undo();
            for (int p = 0; p < 8; p++) {
                x.undo();
            }
        }
        T.says(9, "NONE: 1.");
        for (int wrong : new int[] {-1, 5, 8, MIN, MAX}) {
            T.refused(9, "alone(" + wrong + ")", x, x.alone(wrong), 1);
        }
        x = TestHelp.of(NO_HOUSE);
        T.refused(9, "no house", x, x.alone(0), 1);
        x = new TaleShares();
        T.refused(9, "no TERRACE", x, x.alone(0), 1);
    }

    private static void tales() {
        T.says(10, "How many TALES.");
        TaleShares x = TestHelp.of(TestHelp.FULL);
        // From the end: u, v 1 each, t 2, s 2 and 2, r 4 and 2, q 6 and 4 and 2, p 12 and 6.
        T.due(10, "all pieces", x, x.tales(255), 18);
        T.due(10, "without v", x, x.tales(255 - 64), 9);
        T.due(10, "without q", x, x.tales(255 - 2), 6);
        T.due(10, "p r s u w alone", x, x.tales(1 + 4 + 8 + 32 + 128), 1);
        T.due(10, "without w", x, x.tales(127), 0);
        T.due(10, "none of them", x, x.tales(0), 0);
        x = TestHelp.of(MOST_TALES);
        T.due(10, "as many as can be", x, x.tales(255), 40);
        T.due(10, "without a", x, x.tales(254), 20);
        T.due(10, "without h", x, x.tales(127), 20);
        T.due(10, "without c: d e alone", x, x.tales(255 - 4), 8);
        x = TestHelp.of(EIGHT);
        T.due(10, "all eight", x, x.tales(255), 1);
        for (int p = 0; p < 8; p++) {
            T.due(10, "without " + p, x, x.tales(255 - (1 << p)), 0);
        }
        T.says(10, "NONE: 1 (no TERRACE, no such pieces).");
        for (int wrong : new int[] {-1, 256, 257, 511, 512, MIN, MIN + 255, MAX}) {
            T.refused(10, "tales(" + wrong + ")", x, x.tales(wrong), 1);
        }
        x = TestHelp.of(NO_HOUSE);
        T.due(10, "tales(1)", x, x.tales(1), 0);
        T.refused(10, "tales(2)", x, x.tales(2), 1);
        T.refused(10, "tales(3)", x, x.tales(3), 1);
        x = new TaleShares();
        T.refused(10, "no TERRACE", x, x.tales(0), 1);
        T.refused(10, "no TERRACE", x, x.tales(1), 1);
    }

    private static void longest() {
        T.says(11, "How many pieces the longest has;");
        TaleShares x = TestHelp.of(EIGHT);
        T.due(11, "eight", x, x.longest(255), 8);
        x = TestHelp.of(TestHelp.FULL);
        T.due(11, "p q r s t u w", x, x.longest(255), 7);
        T.due(11, "without s", x, x.longest(255 - 8), 6);
        T.due(11, "p r t u w", x, x.longest(1 + 4 + 16 + 32 + 128), 5);
        x = TestHelp.of("nurse kings 0 sleeps 0;piece a begins;piece b ends;follows a b");
        T.due(11, "two", x, x.longest(3), 2);
        T.says(11, "-2 there is none.");
        T.due(11, "a", x, x.longest(1), -2);
        T.due(11, "b", x, x.longest(2), -2);
        T.due(11, "none of them", x, x.longest(0), -2);
        T.says(11, "NONE: likewise.");
        T.refused(11, "longest(4)", x, x.longest(4), 1);
        T.refused(11, "longest(-1)", x, x.longest(-1), 1);
        x = TestHelp.of(EIGHT);
        T.refused(11, "longest(256)", x, x.longest(256), 1);
        T.refused(11, "longest(MIN)", x, x.longest(MIN), 1);
        x = new TaleShares();
        T.refused(11, "no TERRACE", x, x.longest(0), 1);
    }

    private static void longestAt() {
        T.says(12, "The i-th piece of the longest, of like ones the first.");
        TaleShares x = TestHelp.of(EIGHT);
        for (int i = 0; i < 8; i++) {
            T.due(12, "longestAt(255, " + i + ")", x, x.longestAt(255, i), i);
        }
        x = TestHelp.of(TestHelp.FULL);
        int[] first = {0, 1, 2, 3, 4, 5, 7};
        int[] withoutU = {0, 1, 2, 3, 4, 6, 7};
        for (int i = 0; i < 7; i++) {
            T.due(12, "by u, ahead of by v", x, x.longestAt(255, i), first[i]);
            T.due(12, "by v", x, x.longestAt(255 - 32, i), withoutU[i]);
        }
        T.says(12, "NONE: 1 (i, too; there is none).");
        for (int wrong : new int[] {-1, 7, 8, MIN, MAX}) {
            T.refused(12, "longestAt(255, " + wrong + ")", x, x.longestAt(255, wrong), 1);
        }
        T.refused(12, "there is none", x, x.longestAt(127, 0), 1);
        T.refused(12, "longestAt(256, 0)", x, x.longestAt(256, 0), 1);
        T.refused(12, "longestAt(-1, 0)", x, x.longestAt(-1, 0), 1);
        x = TestHelp.of(EIGHT);
        T.refused(12, "longestAt(255, 8)", x, x.longestAt(255, 8), 1);
        x = new TaleShares();
        T.refused(12, "no TERRACE", x, x.longestAt(0, 0), 1);
    }

    private static void taleAt() {
        T.says(13, "The i-th piece of the k-th TALE.");
        TaleShares x = TestHelp.of(TestHelp.FULL);
        int[] first = {0, 1, 2, 3, 4, 5, 7};
        int[] last = {0, 2, 4, 6, 7};
        for (int i = 0; i < first.length; i++) {
            T.due(13, "taleAt(255, 0, " + i + ")", x, x.taleAt(255, 0, i), first[i]);
        }
        for (int i = 0; i < last.length; i++) {
            T.due(13, "taleAt(255, 17, " + i + ")", x, x.taleAt(255, 17, i), last[i]);
            T.due(13, "the first of few", x, x.taleAt(1 + 4 + 16 + 64 + 128, 0, i), last[i]);
        }
        TaleShares most = TestHelp.of(MOST_TALES);
        int[][] rows = {{0, 2, 3, 4, 5, 6}, {0, 3, 4, 7}, {1, 2, 3, 4, 5, 6}, {1, 3, 4, 7}};
        int[] numbers = {0, 19, 20, 39};
        for (int k = 0; k < rows.length; k++) {
            int number = numbers[k];
            for (int i = 0; i < rows[k].length; i++) {
                T.due(13, "taleAt(255, " + number + ", " + i + ")", most, most.taleAt(255, number, i),
                        rows[k][i]);
            }
        }
        T.due(17, "the last one", most, most.isTale(2458), 1);
        T.says(13, "NONE: 1 (i, k, too).");
        T.refused(13, "taleAt(255, 39, 4)", most, most.taleAt(255, 39, 4), 1);
        T.refused(13, "taleAt(255, 40, 0)", most, most.taleAt(255, 40, 0), 1);
        for (int wrong : new int[] {-1, 18, 19, MIN, MAX}) {
            T.refused(13, "taleAt(255, " + wrong + ", 0)", x, x.taleAt(255, wrong, 0), 1);
        }
        for (int wrong : new int[] {-1, 7, 8, MIN, MAX}) {
            T.refused(13, "taleAt(255, 0, " + wrong + ")", x, x.taleAt(255, 0, wrong), 1);
        }
        T.refused(13, "taleAt(255, 17, 5)", x, x.taleAt(255, 17, 5), 1);
        T.refused(13, "taleAt(255, 17, -1)", x, x.taleAt(255, 17, -1), 1);
        T.refused(13, "the first of none", x, x.taleAt(127, 0, 0), 1);
        T.refused(13, "taleAt(256, 0, 0)", x, x.taleAt(256, 0, 0), 1);
        T.refused(13, "taleAt(-1, 0, 0)", x, x.taleAt(-1, 0, 0), 1);
        x = new TaleShares();
        T.refused(13, "no TERRACE", x, x.taleAt(0, 0, 0), 1);
    }

    private static void usedAndNeeded() {
        T.says(14, "Pieces that are in some TALE of these, as bits.");
        TaleShares x = TestHelp.of(TestHelp.FULL);
        T.due(14, "all", x, x.used(255), 255);
        T.due(14, "without t and u: s alone goes on", x, x.used(255 - 16 - 32), 255 - 16 - 32);
        T.due(14, "without r and s: p q t", x, x.used(255 - 4 - 8), 255 - 4 - 8);
        T.due(14, "without q and t", x, x.used(255 - 2 - 16), 255 - 2 - 16);
        T.due(14, "without w", x, x.used(127), 0);
        T.due(14, "none of them", x, x.used(0), 0);
        TaleShares y = TestHelp.of("nurse kings 0 sleeps 0;piece a begins;piece b king;piece c ends;"
                + "piece d plain;follows a b;follows b c;follows a c;follows a d");
        T.due(14, "b is a king too many, d goes nowhere", y, y.used(15), 5);
        T.says(14, "NONE: 1.");
        refusedBits(14, x);
        T.says(15, "Pieces that are in all of them (0 without), as bits.");
        T.due(15, "p and w", x, x.needed(255), 129);
        T.due(15, "without u: v", x, x.needed(255 - 32), 129 + 64);
        T.due(15, "without q: r", x, x.needed(255 - 2), 129 + 4);
        T.due(15, "one TALE", x, x.needed(1 + 4 + 8 + 32 + 128), 1 + 4 + 8 + 32 + 128);
        TaleShares z = TestHelp.of("nurse kings 0 sleeps 0;piece a begins;piece b ends;piece c plain;"
                + "follows a b;follows a c;follows c b");
        T.due(15, "c isn't in the first", z, z.needed(7), 3);
        z = TestHelp.of("nurse kings 0 sleeps 0;piece a begins;piece b plain;piece c ends;"
                + "follows a b;follows a c;follows b c");
        T.due(15, "b isn't in the last", z, z.needed(7), 5);
        T.due(15, "without w", x, x.needed(127), 0);
        T.due(15, "none of them", x, x.needed(0), 0);
        T.due(15, "a and c", y, y.needed(15), 5);
        T.says(15, "NONE: 1.");
        refusedBits(15, x);
    }

    private static int byBits(int promise, TaleShares x, int pieces) {
        return promise == 14 ? x.used(pieces) : promise == 15 ? x.needed(pieces) : x.leftOver(pieces);
    }

    private static void refusedBits(int promise, TaleShares full) {
        for (int wrong : new int[] {-1, 256, 257, MIN, MAX}) {
            T.refused(promise, "bits " + wrong, full, byBits(promise, full, wrong), 1);
        }
        TaleShares x = TestHelp.of(NO_HOUSE);
        T.due(promise, "bits 0", x, byBits(promise, x, 0), 0);
        T.refused(promise, "bits 2", x, byBits(promise, x, 2), 1);
        x = new TaleShares();
        T.refused(promise, "no TERRACE", x, byBits(promise, x, 0), 1);
    }

    private static void leftOver() {
        T.says(16, "The fewest of these that are left over by a TALE;");
        TaleShares x = TestHelp.of(TestHelp.FULL);
        T.due(16, "one of eight", x, x.leftOver(255), 1);
        T.due(16, "none", x, x.leftOver(1 + 4 + 8 + 32 + 128), 0);
        T.due(16, "none of seven", x, x.leftOver(255 - 64), 0);
        T.due(16, "p q r s u w, v is left over", x, x.leftOver(255 - 16), 1);
        TaleShares y = TestHelp.of(EIGHT);
        T.due(16, "none of eight", y, y.leftOver(255), 0);
        T.says(16, "all, if there is none.");
        T.due(16, "all seven", x, x.leftOver(127), 7);
        T.due(16, "all seven", y, y.leftOver(254), 7);
        T.due(16, "the one", x, x.leftOver(128), 1);
        T.due(16, "none of none", x, x.leftOver(0), 0);
        T.says(16, "NONE: 1.");
        refusedBits(16, x);
    }

    private static void isTale() {
        T.says(17, "1 if a row of pieces (digits, the first one's the highest, each a piece's number"
                + " and 1) is a TALE, else 0.");
        TaleShares x = TestHelp.of(EIGHT);
        T.due(17, "eight digits", x, x.isTale(12345678), 1);
        T.due(17, "the other way", x, x.isTale(87654321), 0);
        T.due(17, "seven digits", x, x.isTale(1234567), 0);
        T.due(17, "nine digits", x, x.isTale(112345678), 0);
        T.due(17, "nine digits", x, x.isTale(123456781), 0);
        T.due(17, "ten digits", x, x.isTale(1123456788), 0);
        T.due(17, "ten digits, none of no piece", x, x.isTale(MAX), 0);
        T.due(17, "one digit", x, x.isTale(1), 0);
        T.due(17, "one digit", x, x.isTale(8), 0);
        x = TestHelp.of(TestHelp.FULL);
        T.due(17, "p q s u w", x, x.isTale(12468), 1);
        T.due(17, "p q s u", x, x.isTale(1246), 0);
        T.due(17, "q s u w", x, x.isTale(2468), 0);
        T.says(17, "NONE: 1 (no TERRACE);");
        TaleShares y = new TaleShares();
        T.refused(17, "isTale(12)", y, y.isTale(12), 1);
        T.refused(17, "isTale(0)", y, y.isTale(0), 1);
        T.refused(17, "isTale(9)", y, y.isTale(9), 1);
        T.says(17, "2 (below 1, a digit of no piece).");
        for (int wrong : new int[] {0, -1, -12468, MIN, 9, 19, 91, 10, 100, 102468, 12460, 124680,
            124698, 1000000000, 2147483640}) {
            T.refused(17, "isTale(" + wrong + ")", x, x.isTale(wrong), 2);
        }
        y = TestHelp.of("nurse kings 0 sleeps 0;piece a begins;piece b ends;follows a b");
        T.due(17, "isTale(1)", y, y.isTale(1), 0);
        T.due(17, "isTale(12)", y, y.isTale(12), 1);
        T.refused(17, "isTale(3)", y, y.isTale(3), 2);
        T.refused(17, "isTale(13)", y, y.isTale(13), 2);
        T.refused(17, "isTale(312)", y, y.isTale(312), 2);
    }
}
