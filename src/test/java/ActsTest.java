import java.util.NoSuchElementException;

/** Promises 41 to 51: acts, undoing, images, what is told. */
public final class ActsTest {
    private static final TestHelp T = new TestHelp();

    public static void main(String[] args) {
        telling();
        learningAndForgetting();
        evening();
        seed();
        undo();
        sixteenAreKept();
        images();
        led();
        size();
        trouble();
        T.end();
    }

    private static void telling() {
        TaleShares x = TestHelp.of(TestHelp.BASE);
        T.due(41, "tell(0, 1)", x, x.tell(0, 1), 3);
        T.due(41, "it KNOWS more", x, x.house(1, 3), 23);
        T.due(41, "the other one doesn't", x, x.house(0, 3), 3);
        T.due(41, "tell(0, 1) again", x, x.tell(0, 1), 0);
        T.check(41, "that was an ACT too", x.size(9), 2);
        T.due(41, "a silent one hears", x, x.tell(1, 2), 23);
        T.refused(41, "a silent one", x, x.tell(2, 0), 5);
        for (int wrong : new int[] {-1, 3, Integer.MIN_VALUE, Integer.MAX_VALUE}) {
            T.refused(41, "no such", x, x.tell(wrong, 0), 1);
            T.refused(41, "no such", x, x.tell(0, wrong), 1);
            T.refused(41, "no such", x, x.tell(2, wrong), 1);
        }
        for (int h = 0; h < 3; h++) {
            T.refused(41, "itself", x, x.tell(h, h), 1);
        }
        T.check(41, "refused ones are no ACTS", x.size(9), 3);
        x = new TaleShares();
        T.refused(41, "no TERRACE", x, x.tell(0, 1), 1);
    }

    private static void learningAndForgetting() {
        TaleShares x = TestHelp.of(TestHelp.BASE);
        T.due(42, "learn(2, 0)", x, x.learn(2, 0), true);
        T.due(42, "KNOWS", x, x.house(2, 3), 9);
        T.refused(42, "learn(2, 0) again", x, x.learn(2, 0), 5);
        T.due(43, "forget(1, 4)", x, x.forget(1, 4), true);
        T.due(43, "KNOWS", x, x.house(1, 3), 4);
        T.refused(43, "forget(1, 4) again", x, x.forget(1, 4), 5);
        T.check(43, "others stay", x.house(0, 3), 3);
        T.check(43, "heard as told", x.size(5), 5);
        for (int wrong : new int[] {-1, 5, Integer.MIN_VALUE, Integer.MAX_VALUE}) {
            T.refused(42, "learn(" + wrong + ", 0)", x, x.learn(wrong, 0), 1);
            T.refused(42, "learn(0, " + wrong + ")", x, x.learn(0, wrong), 1);
            T.refused(43, "forget(" + wrong + ", 0)", x, x.forget(wrong, 0), 1);
            T.refused(43, "forget(0, " + wrong + ")", x, x.forget(0, wrong), 1);
        }
        T.check(43, "ACTS", x.size(9), 2);
        x = new TaleShares();
        T.refused(42, "no TERRACE", x, x.learn(0, 0), 1);
        T.refused(43, "no TERRACE", x, x.forget(0, 0), 1);
    }

    private static void evening() {
        TaleShares x = TestHelp.of(TestHelp.BASE);
        // DRAWS from SEED 0: 74, 5624 (24: asleep), 28652, 51790, 17641 (41: asleep)
        T.due(44, "evening(2)", x, x.evening(2), 1);
        T.check(44, "SEED", x.size(8), 5624);
        T.check(44, "KNOWS", x.house(2, 3), 9);
        T.due(44, "evening(2)", x, x.evening(2), 2);
        T.check(44, "SEED", x.size(8), 17641);
        T.check(44, "KNOWS", x.house(2, 3), 11);
        x.seed(74);
        T.due(44, "asleep at once", x, x.evening(1), 0);
        T.check(44, "SEED", x.size(8), 5624);
        T.check(44, "KNOWS", x.house(1, 3), 20);
        T.check(44, "ACTS", x.size(9), 3);
        T.refused(44, "evening(3)", x, x.evening(3), 1);
        T.refused(44, "evening(-1)", x, x.evening(-1), 1);
        x = TestHelp.of("nurse kings 2 sleeps 0;" + TestHelp.FIVE_PIECES + ";house h at 0 from 0 to 0");
        T.due(44, "all of the longest", x, x.evening(0), 5);
        T.check(44, "KNOWS", x.house(0, 3), 31);
        x = TestHelp.of("nurse kings 2 sleeps 0;piece a begins;house h at 0 from 0 to 0");
        x.seed(5);
        T.refused(44, "there is no TALE", x, x.evening(0), 6);
        T.refused(44, "no such house", x, x.evening(1), 1);
        T.check(44, "SEED", x.size(8), 5);
        T.check(44, "no ACT", x.size(9), 0);
        x = new TaleShares();
        T.refused(44, "no TERRACE", x, x.evening(0), 1);
    }

    private static void seed() {
        TaleShares x = TestHelp.of(TestHelp.BASE);
        T.due(45, "seed(65536)", x, x.seed(65536), true);
        T.check(45, "SEED", x.size(8), 65536);
        for (int wrong : new int[] {-1, 65537, Integer.MIN_VALUE, Integer.MAX_VALUE}) {
            T.refused(45, "seed(" + wrong + ")", x, x.seed(wrong), 2);
        }
        T.check(45, "SEED stays", x.size(8), 65536);
        T.check(45, "no ACT", x.size(9), 0);
        T.due(45, "evening by it: 65536 comes behind itself", x, x.evening(0), 0);
        T.check(45, "SEED", x.size(8), 65536);
        T.due(45, "seed(1)", x, x.seed(1), true);
        T.due(45, "evening by 149: 49 is below 50", x, x.evening(0), 0);
        T.check(45, "SEED", x.size(8), 149);
        T.due(45, "seed(0)", x, x.seed(0), true);
        T.check(45, "SEED", x.size(8), 0);
        x = new TaleShares();
        T.refused(45, "no TERRACE", x, x.seed(0), 1);
        T.refused(45, "no TERRACE", x, x.seed(-1), 1);
    }

    private static void undo() {
        TaleShares x = TestHelp.of(TestHelp.BASE);
        T.refused(46, "nothing to undo", x, x.undo(), 6);
        x.seed(8);
        T.refused(46, "SEED is no ACT", x, x.undo(), 6);
        x.tell(0, 1);
        x.evening(2);
        x.learn(0, 3);
        x.forget(0, 0);
        x.seed(65536);
        int[][] want = {{11, 23, x.house(2, 3)}, {3, 23, x.house(2, 3)}, {3, 23, 8}, {3, 20, 8}};
        for (int k = 0; k < 4; k++) {
            T.due(46, "undo " + k, x, x.undo(), true);
            for (int h = 0; h < 3; h++) {
                T.check(46, "undone " + k + " house " + h, x.house(h, 3), want[k][h]);
            }
            T.check(46, "ACTS", x.size(9), 3 - k);
            T.check(46, "SEED", x.size(8) == 8 ? 1 : 0, k < 2 ? 0 : 1);
        }
        T.refused(46, "nothing to undo", x, x.undo(), 6);
        x = new TaleShares();
        T.refused(46, "no TERRACE", x, x.undo(), 6);
    }

    private static void sixteenAreKept() {
        TaleShares x = TestHelp.of(TestHelp.BASE);
        for (int k = 0; k < 20; k++) {
            x.seed(100 + k);
            if (k % 2 == 0) {
                x.learn(0, 4);
            } else {
                x.forget(0, 4);
            }
            T.check(46, "ACTS", x.size(9), Math.min(k + 1, 16));
        }
        for (int k = 19; k >= 4; k--) {
            T.due(46, "undo", x, x.undo(), true);
            T.check(46, "SEED", x.size(8), 100 + k);
            T.check(46, "KNOWS", x.house(0, 3), k % 2 == 0 ? 3 : 19);
        }
        T.refused(46, "older ones aren't kept", x, x.undo(), 6);
    }

    private static void images() {
        TaleShares x = TestHelp.of(TestHelp.BASE);
        T.refused(48, "no image", x, x.back(0), 1);
        T.due(47, "image", x, x.image(), 0);
        x.seed(65536);
        x.learn(2, 0);
        T.due(47, "image", x, x.image(), 1);
        x.tell(0, 1);
        x.seed(3);
        T.due(47, "image", x, x.image(), 2);
        T.refused(47, "no room", x, x.image(), 3);
        T.check(47, "IMAGES", x.size(10), 3);
        T.check(47, "no ACTS", x.size(9), 2);
        T.due(48, "back(1)", x, x.back(1), true);
        T.check(48, "SEED", x.size(8), 65536);
        T.check(48, "KNOWS", x.house(1, 3), 20);
        T.check(48, "KNOWS", x.house(2, 3), 9);
        T.check(48, "nothing can be undone", x.size(9), 0);
        T.refused(48, "nothing can be undone", x, x.undo(), 6);
        T.check(48, "all IMAGES stay", x.size(10), 3);
        T.due(48, "back(2)", x, x.back(2), true);
        T.check(48, "SEED", x.size(8), 3);
        T.check(48, "KNOWS", x.house(1, 3), 23);
        T.due(48, "back(0)", x, x.back(0), true);
        T.check(48, "SEED", x.size(8), 0);
        T.check(48, "KNOWS", x.house(2, 3), 8);
        for (int wrong : new int[] {-1, 3, Integer.MIN_VALUE, Integer.MAX_VALUE}) {
            T.refused(48, "back(" + wrong + ")", x, x.back(wrong), 1);
        }
        x.learn(0, 4);
        x.undo();
        T.check(48, "undo leaves IMAGES", x.size(10), 3);
        x = new TaleShares();
        T.refused(47, "no TERRACE", x, x.image(), 1);
        T.refused(48, "no TERRACE", x, x.back(0), 1);
    }

    private static void ledTo(TaleShares x, int i, int want) {
        int got = -1;
        try {
            got = x.led(i);
        } catch (NoSuchElementException e) {
            got = -9;
        }
        T.check(49, "led(" + i + ")", got, want);
    }

    private static void led() {
        TaleShares x = TestHelp.of(TestHelp.BASE);
        x.learn(1, 0);
        x.house(9, 9);
        ledTo(x, 0, 0);
        ledTo(x, 1, 2);
        for (int wrong : new int[] {-1, 2, 3, Integer.MIN_VALUE, Integer.MAX_VALUE}) {
            ledTo(x, wrong, -9);
        }
        T.check(51, "led leaves the trouble", x.trouble(), 1);
        x.forget(1, 0);
        ledTo(x, 1, 1);
        ledTo(x, 2, 2);
        ledTo(x, 3, -9);
        ledTo(new TaleShares(), 0, -9);
        ledTo(TestHelp.of("nurse kings 0 sleeps 0;piece a begins"), 0, -9);
    }

    private static void size() {
        TaleShares x = TestHelp.of(TestHelp.BASE);
        x.house(9, 9);
        x.feed(0, 0, 0, 0, 0);
        int[] sizes = {1, 50, 5, 7, 3, 5, 1, 4, 0, 0, 0, 20};
        for (int what = 0; what < sizes.length; what++) {
            T.check(50, "size(" + what + ")", x.size(what), sizes[what]);
        }
        for (int wrong : new int[] {-1, 12, Integer.MIN_VALUE, Integer.MAX_VALUE}) {
            T.check(50, "size(" + wrong + ")", x.size(wrong), -1);
        }
        T.check(51, "size leaves the trouble", x.trouble(), 1);
        x.seed(9);
        x.learn(2, 2);
        x.image();
        x.image();
        T.check(50, "SEED", x.size(8), 9);
        T.check(50, "ACTS", x.size(9), 1);
        T.check(50, "IMAGES", x.size(10), 2);
        T.check(50, "heard as told", x.size(5), 5);
    }

    private static void trouble() {
        TaleShares x = TestHelp.of(TestHelp.BASE);
        T.check(51, "a sound text", x.trouble(), 0);
        x.house(9, 9);
        T.check(51, "1", x.trouble(), 1);
        x.seed(-1);
        T.check(51, "2", x.trouble(), 2);
        x.trouble();
        T.check(51, "2 again", x.trouble(), 2);
        x.learn(0, 0);
        T.check(51, "5", x.trouble(), 5);
        x.undo();
        T.check(51, "6", x.trouble(), 6);
        for (int k = 0; k < 4; k++) {
            x.image();
        }
        T.check(51, "3", x.trouble(), 3);
        TestHelp.tell(x, "odd");
        x.fault();
        x.where();
        T.check(51, "4", x.trouble(), 4);
        x.father(1, 1, 1, true);
        T.check(51, "0", x.trouble(), 0);
        x.house(9, 9);
        x.tells(1, 1, true);
        T.check(51, "0 behind tells", x.trouble(), 0);
        x.house(9, 9);
        x.mean(1, true);
        T.check(51, "0 behind mean", x.trouble(), 0);
        x.house(9, 9);
        x.longest(0);
        T.check(51, "0 behind an answer of -2", x.trouble(), 0);
    }
}
