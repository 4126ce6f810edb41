import java.util.NoSuchElementException;

/** Promises 41 to 51, sentence by sentence, on both sides of each boundary. */
public final class ActsEdgesTest {
    private static final TestHelp T = new TestHelp();
    private static final int MIN = Integer.MIN_VALUE;
    private static final int MAX = Integer.MAX_VALUE;
    private static final String NO_HOUSE = "nurse kings 1 sleeps 50;" + TestHelp.FIVE_PIECES;
    /** The full TERRACE, but nobody is silent there and she never sleeps. */
    private static final String OPEN = TestHelp.FULL.replaceAll("silent .;", "")
            .replace("sleeps 100", "sleeps 0");

    public static void main(String[] args) {
        tell();
        tellRefused();
        learn();
        forget();
        evening();
        seed();
        undo();
        image();
        back();
        led();
        size();
        sizeOfWhatThereIsNot();
        trouble();
        T.end();
    }

    private static void tell() {
        T.says(41, "TELL: pieces it KNOWS more by it, as bits.");
        TaleShares x = TestHelp.of(OPEN);
        T.due(41, "a tells e seven pieces", x, x.tell(0, 4), 127);
        T.due(41, "e KNOWS them", x, x.house(4, 3), 127);
        T.due(41, "b tells e one more", x, x.tell(1, 4), 128);
        T.due(41, "e KNOWS all", x, x.house(4, 3), 255);
        T.due(41, "b is as it was", x, x.house(1, 3), 192);
        T.due(41, "d tells e nothing new", x, x.tell(3, 4), 0);
        T.due(41, "e tells a", x, x.tell(4, 0), 128);
        T.due(41, "e tells d", x, x.tell(4, 3), 255 - 16);
        x.undo();
        x.undo();
        x.undo();
        T.due(41, "three ACTS back", x, x.house(3, 3), 16);
    }

    private static void tellRefused() {
        T.says(41, "NONE: 1 (unlike);");
        TaleShares x = TestHelp.of(OPEN);
        for (int h = 0; h < 5; h++) {
            T.refused(41, "tell(" + h + ", " + h + ")", x, x.tell(h, h), 1);
            for (int wrong : new int[] {-1, 5, 6, MIN, MAX}) {
                T.refused(41, "tell(" + h + ", " + wrong + ")", x, x.tell(h, wrong), 1);
                T.refused(41, "tell(" + wrong + ", " + h + ")", x, x.tell(wrong, h), 1);
            }
        }
        T.refused(41, "tell(5, 5)", x, x.tell(5, 5), 1);
        T.check(41, "no ACT", x.size(9), 0);
        x = TestHelp.of(NO_HOUSE);
        T.refused(41, "no house", x, x.tell(0, 1), 1);
        x = new TaleShares();
        T.refused(41, "no TERRACE", x, x.tell(0, 1), 1);
        T.says(41, "5 (it is silent).");
        x = TestHelp.of(TestHelp.FULL);
        T.refused(41, "a is silent", x, x.tell(0, 4), 5);
        T.refused(41, "e is silent", x, x.tell(4, 0), 5);
        T.refused(41, "silent, but to itself: none such", x, x.tell(4, 4), 1);
        T.refused(41, "silent, but to nobody: none such", x, x.tell(4, 5), 1);
        T.check(41, "no ACT", x.size(9), 0);
        T.due(41, "e KNOWS nothing still", x, x.house(4, 3), 0);
        x = TestHelp.of(TestHelp.BASE);
        T.refused(41, "z is silent", x, x.tell(2, 0), 5);
        T.due(41, "z hears", x, x.tell(0, 2), 3);
    }

    private static void learn() {
        T.says(42, "LEARN: true;");
        TaleShares x = TestHelp.of(TestHelp.FULL);
        T.due(42, "learn(4, 0)", x, x.learn(4, 0), true);
        T.due(42, "learn(4, 7)", x, x.learn(4, 7), true);
        T.due(42, "learn(0, 7)", x, x.learn(0, 7), true);
        T.due(42, "KNOWS", x, x.house(4, 3), 129);
        T.due(42, "KNOWS", x, x.house(0, 3), 255);
        T.due(42, "others", x, x.house(3, 3), 16);
        T.check(42, "ACTS", x.size(9), 3);
        T.says(42, "false: 1; 5 (it KNOWS it).");
        T.refused(42, "learn(4, 7)", x, x.learn(4, 7), 5);
        T.refused(42, "learn(0, 0)", x, x.learn(0, 0), 5);
        for (int wrong : new int[] {-1, 8, 9, 32, MIN, MAX}) {
            T.refused(42, "learn(4, " + wrong + ")", x, x.learn(4, wrong), 1);
            T.refused(42, "learn(" + wrong + ", 1)", x, x.learn(wrong, 1), 1);
        }
        T.refused(42, "learn(5, 0)", x, x.learn(5, 0), 1);
        T.check(42, "ACTS", x.size(9), 3);
        x = TestHelp.of(NO_HOUSE);
        T.refused(42, "no house", x, x.learn(0, 0), 1);
        x = new TaleShares();
        T.refused(42, "no TERRACE", x, x.learn(0, 0), 1);
    }

    private static void forget() {
        T.says(43, "FORGET: true;");
        TaleShares x = TestHelp.of(TestHelp.FULL);
        T.due(43, "forget(0, 0)", x, x.forget(0, 0), true);
        T.due(43, "forget(1, 7)", x, x.forget(1, 7), true);
        x.learn(4, 7);
        T.due(43, "forget(4, 7)", x, x.forget(4, 7), true);
        T.due(43, "KNOWS", x, x.house(0, 3), 126);
        T.due(43, "KNOWS", x, x.house(1, 3), 64);
        T.due(43, "KNOWS", x, x.house(4, 3), 0);
        T.due(43, "others", x, x.house(2, 3), 1 + 2 + 32 + 128);
        T.check(43, "ACTS", x.size(9), 4);
        T.says(43, "false: 1; 5 (it doesn't KNOW it).");
        T.refused(43, "forget(0, 0)", x, x.forget(0, 0), 5);
        T.refused(43, "forget(4, 7)", x, x.forget(4, 7), 5);
        for (int wrong : new int[] {-1, 8, 9, 32, MIN, MAX}) {
            T.refused(43, "forget(0, " + wrong + ")", x, x.forget(0, wrong), 1);
            T.refused(43, "forget(" + wrong + ", 1)", x, x.forget(wrong, 1), 1);
        }
        T.refused(43, "forget(5, 0)", x, x.forget(5, 0), 1);
        T.check(43, "ACTS", x.size(9), 4);
        x = TestHelp.of(NO_HOUSE);
        T.refused(43, "no house", x, x.forget(0, 0), 1);
        x = new TaleShares();
        T.refused(43, "no TERRACE", x, x.forget(0, 0), 1);
    }

    private static void evening() {
        T.says(44, "EVENING: how many pieces she told.");
        TaleShares x = TestHelp.of(OPEN);
        T.due(44, "all seven of the longest", x, x.evening(4), 7);
        T.due(44, "KNOWS", x, x.house(4, 3), 255 - 64);
        T.due(44, "all seven again", x, x.evening(4), 7);
        x = TestHelp.of(TestHelp.FULL);
        T.due(44, "she sleeps at once", x, x.evening(4), 0);
        T.check(44, "SEED: one DRAW", x.size(8), 74);
        T.check(44, "an ACT", x.size(9), 1);
        TaleShares y = TestHelp.of(TestHelp.FULL.replace("sleeps 100", "sleeps 0"));
        T.due(44, "a silent house hears", y, y.evening(4), 7);
        T.due(44, "KNOWS", y, y.house(4, 3), 255 - 64);
        T.says(44, "NONE: 1; 6 (there is no TALE).");
        for (int wrong : new int[] {-1, 5, 6, MIN, MAX}) {
            T.refused(44, "evening(" + wrong + ")", x, x.evening(wrong), 1);
        }
        T.check(44, "SEED", x.size(8), 74);
        x = TestHelp.of("nurse kings 0 sleeps 0;piece a begins;piece b king;piece c ends;follows a b;"
                + "follows b c;house h at 0 from 0 to 0;heard h a");
        T.refused(44, "there is no TALE", x, x.evening(0), 6);
        T.refused(44, "no house, no TALE", x, x.evening(1), 1);
        T.check(44, "SEED", x.size(8), 0);
        T.check(44, "no ACT", x.size(9), 0);
        T.due(44, "KNOWS", x, x.house(0, 3), 1);
        x = TestHelp.of("nurse kings 1 sleeps 0;piece a begins;piece b king;piece c ends;follows a b;"
                + "follows b c;house h at 0 from 0 to 0;heard h a");
        T.due(44, "by one king there is", x, x.evening(0), 3);
        x = TestHelp.of(NO_HOUSE);
        T.refused(44, "no house", x, x.evening(0), 1);
        x = new TaleShares();
        T.refused(44, "no TERRACE", x, x.evening(0), 1);
    }

    private static void seed() {
        T.says(45, "SEED (no ACT): true;");
        TaleShares x = TestHelp.of(TestHelp.BASE);
        for (int v : new int[] {0, 1, 65535, 65536}) {
            T.due(45, "seed(" + v + ")", x, x.seed(v), true);
            T.check(45, "SEED", x.size(8), v);
            T.check(45, "no ACT", x.size(9), 0);
        }
        T.refused(45, "nothing to undo", x, x.undo(), 6);
        T.says(45, "false: 1 (no TERRACE); 2 (0 .. 65,536).");
        TaleShares none = new TaleShares();
        for (int v : new int[] {-1, 65537, 65538, MIN, MAX}) {
            T.refused(45, "seed(" + v + ")", x, x.seed(v), 2);
            T.check(45, "SEED", x.size(8), 65536);
            T.refused(45, "no TERRACE", none, none.seed(v), 1);
        }
        T.refused(45, "no TERRACE", none, none.seed(0), 1);
        T.check(45, "no SEED", none.size(8), 0);
    }

    private static void undo() {
        T.says(46, "UNDO: true; false: 6.");
        TaleShares x = new TaleShares();
        T.refused(46, "no TERRACE", x, x.undo(), 6);
        TestHelp.tell(x, TestHelp.BASE);
        T.refused(46, "no ACT", x, x.undo(), 6);
        x.learn(0, 4);
        T.due(46, "one", x, x.undo(), true);
        T.due(46, "KNOWS", x, x.house(0, 3), 3);
        T.refused(46, "no more", x, x.undo(), 6);
        x.tell(0, 1);
        x.learn(0, 0);
        T.due(46, "the refused one isn't there", x, x.undo(), true);
        T.due(46, "KNOWS", x, x.house(1, 3), 20);
        T.refused(46, "no more", x, x.undo(), 6);
        x.image();
        x.learn(0, 4);
        T.due(46, "undo", x, x.undo(), true);
        T.check(46, "the IMAGE stays", x.size(10), 1);
        x.learn(0, 4);
        TestHelp.tell(x, "?");
        T.due(46, "a faulty text leaves it", x, x.undo(), true);
        x.learn(0, 4);
        TestHelp.tell(x, TestHelp.BASE);
        T.refused(46, "a sound one doesn't", x, x.undo(), 6);
    }

    private static void image() {
        T.says(47, "An IMAGE: its number.");
        TaleShares x = TestHelp.of(TestHelp.BASE);
        T.check(47, "IMAGES", x.size(10), 0);
        T.due(47, "the first", x, x.image(), 0);
        T.due(47, "the second", x, x.image(), 1);
        T.check(47, "IMAGES", x.size(10), 2);
        T.due(47, "the third", x, x.image(), 2);
        T.check(47, "no ACT", x.size(9), 0);
        T.says(47, "NONE: 1 (no TERRACE); 3.");
        T.refused(47, "no room", x, x.image(), 3);
        T.refused(47, "no room", x, x.image(), 3);
        T.check(47, "IMAGES", x.size(10), 3);
        x.back(0);
        T.refused(47, "gone back, no room still", x, x.image(), 3);
        TestHelp.tell(x, "?");
        T.refused(47, "behind a faulty text, no room still", x, x.image(), 3);
        TestHelp.tell(x, TestHelp.BASE);
        T.due(47, "behind a sound one", x, x.image(), 0);
        x = new TaleShares();
        T.refused(47, "no TERRACE", x, x.image(), 1);
        T.check(47, "IMAGES", x.size(10), 0);
    }

    private static void back() {
        T.says(48, "All is as by an IMAGE (all IMAGES stay): true;");
        TaleShares x = TestHelp.of(OPEN);
        x.seed(65536);
        x.image();
        x.tell(0, 4);
        x.seed(0);
        x.image();
        x.tell(1, 4);
        x.tell(4, 0);
        x.seed(1);
        x.image();
        int[][] by = {{127, 0, 65536}, {127, 127, 0}, {255, 255, 1}};
        for (int image : new int[] {2, 0, 1, 1, 2}) {
            T.due(48, "back(" + image + ")", x, x.back(image), true);
            T.due(48, "house 0", x, x.house(0, 3), by[image][0]);
            T.due(48, "house 4", x, x.house(4, 3), by[image][1]);
            T.check(48, "SEED", x.size(8), by[image][2]);
            T.check(48, "IMAGES", x.size(10), 3);
            T.check(48, "ACTS", x.size(9), 0);
            x.forget(0, 0);
            x.seed(9);
        }
        T.says(48, "false: 1.");
        for (int wrong : new int[] {-1, 3, 4, MIN, MAX}) {
            T.refused(48, "back(" + wrong + ")", x, x.back(wrong), 1);
        }
        T.check(48, "ACTS stay", x.size(9), 1);
        T.check(48, "SEED stays", x.size(8), 9);
        x = TestHelp.of(TestHelp.BASE);
        T.refused(48, "no IMAGE", x, x.back(0), 1);
        x.image();
        T.due(48, "one", x, x.back(0), true);
        T.refused(48, "no second", x, x.back(1), 1);
        x = new TaleShares();
        T.refused(48, "no TERRACE", x, x.back(0), 1);
    }

    private static final int THROWN = -9;

    private static int ledBy(TaleShares x, int i) {
        try {
            return x.led(i);
        } catch (NoSuchElementException e) {
            return THROWN;
        }
    }

    private static void led() {
        T.says(49, "The i-th house, by numbers, that has no SENSE.");
        TaleShares x = TestHelp.of(OPEN);
        for (int i = 0; i < 5; i++) {
            T.check(49, "led(" + i + ")", ledBy(x, i), i);
        }
        x.learn(0, 7);
        x.learn(2, 4);
        int[] led = {1, 3, 4};
        for (int i = 0; i < 3; i++) {
            T.check(49, "led(" + i + ")", ledBy(x, i), led[i]);
        }
        T.says(49, "NoSuchElementException if there is none such.");
        for (int wrong : new int[] {-1, 3, 4, 5, MIN, MAX}) {
            T.check(49, "led(" + wrong + ")", ledBy(x, wrong), THROWN);
        }
        x.evening(1);
        x.evening(3);
        T.check(49, "the last", ledBy(x, 0), 4);
        T.check(49, "no second", ledBy(x, 1), THROWN);
        x.evening(4);
        T.check(49, "all have SENSE", ledBy(x, 0), THROWN);
        T.check(49, "no house", ledBy(TestHelp.of(NO_HOUSE), 0), THROWN);
        T.check(49, "no TERRACE", ledBy(new TaleShares(), 0), THROWN);
    }

    private static void size() {
        T.says(50, "0 kings, 1 sleeps, 2 pieces, 3 follows, 4 houses, 5 heard as told, 6 silent,"
                + " 7 pieces of the mixed row, 8 SEED, 9 ACTS that can be undone, 10 IMAGES,"
                + " 11 bytes of THE TAPE.");
        TaleShares x = TestHelp.of(TestHelp.FULL);
        x.learn(4, 0);
        x.forget(0, 0);
        x.seed(65536);
        x.image();
        x.image();
        x.image();
        for (int k = 0; k < 45; k++) {
            x.feed(0, 0, 0, 0, 0);
        }
        int[] full = {4, 100, 8, 14, 5, 14, 5, 6, 65536, 2, 3, 900};
        for (int what = 0; what < full.length; what++) {
            T.check(50, "size(" + what + ")", x.size(what), full[what]);
        }
        for (int k = 0; k < 20; k++) {
            x.evening(0);
        }
        T.check(50, "ACTS", x.size(9), 16);
        x.undo();
        T.check(50, "ACTS", x.size(9), 15);
        T.says(50, "NONE for others;");
        for (int wrong : new int[] {-1, 12, 13, 32, MIN, MAX}) {
            T.check(50, "size(" + wrong + ")", x.size(wrong), -1);
            T.check(50, "size(" + wrong + ") of a new object", new TaleShares().size(wrong), -1);
        }
    }

    private static void sizeOfWhatThereIsNot() {
        T.says(50, "0 for what there isn't.");
        TaleShares x = new TaleShares();
        for (int what = 0; what <= 11; what++) {
            T.check(50, "size(" + what + ") of a new object", x.size(what), 0);
        }
        TestHelp.tell(x, TestHelp.FULL);
        TestHelp.tell(x, "nurse kings 0 sleeps 0;piece a begins");
        for (int what = 0; what <= 11; what++) {
            T.check(50, "size(" + what + ") of the least", x.size(what), what == 2 ? 1 : 0);
        }
    }

    private static void trouble() {
        T.says(51, "TROUBLE.");
        TaleShares x = new TaleShares();
        T.check(51, "a new object", x.trouble(), 0);
        x.tell(0, 0);
        T.check(51, "1", x.trouble(), 1);
        x.terrace(21);
        T.check(51, "2", x.trouble(), 2);
        T.check(51, "2 again", x.trouble(), 2);
        TestHelp.tell(x, "nurse");
        T.check(51, "4", x.trouble(), 4);
        TestHelp.tell(x, TestHelp.FULL);
        T.check(51, "0", x.trouble(), 0);
        x.tell(0, 1);
        T.check(51, "5", x.trouble(), 5);
        x.undo();
        T.check(51, "6", x.trouble(), 6);
        for (int k = 0; k < 3; k++) {
            x.image();
            T.check(51, "0", x.trouble(), 0);
        }
        x.image();
        T.check(51, "3", x.trouble(), 3);
    }
}
