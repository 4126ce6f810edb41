/** Terms II to IV and what is said of all calls, sentence by sentence, on both sides. */
public final class TermsEdgesTest {
    private static final TestHelp T = new TestHelp();
    /** Behind the nurse: the TALES are a b and a c b. */
    private static final String THREE = "piece a begins;piece b ends;piece c plain;follows a b;"
            + "follows a c;follows c b";

    public static void main(String[] args) {
        calls();
        tales();
        order();
        knows();
        wantedAndAsk();
        park();
        soonest();
        timetable();
        slips();
        fathers();
        sleep();
        draws();
        acts();
        undo();
        sixteenAreKept();
        images();
        trouble();
        troubleByEachCall();
        T.end();
    }

    private static TaleShares by(int kings, int sleeps, String lines) {
        return TestHelp.of("nurse kings " + kings + " sleeps " + sleeps + ";" + lines);
    }

    private static void calls() {
        T.says(0, "An object is used for at most 512 calls after it has been made;"
                + " what later calls answer is free.");
        TaleShares x = new TaleShares();
        TestHelp.feed(x, TestHelp.BASE);
        int fed = (TestHelp.BASE.length() + 19) / 20;
        T.check(3, "terrace", x.terrace(TestHelp.BASE.length()), 5);
        for (int call = fed + 2; call <= 512; call++) {
            boolean learnt = (call - fed) % 2 == 0 ? x.learn(0, 4) : x.forget(0, 4);
            T.check(42, "call " + call, learnt ? 1 : 0, 1);
        }
        x = new TaleShares();
        for (int call = 1; call <= 511; call++) {
            T.check(2, "call " + call, x.feed(0, 0, 0, 0, 0), call <= 45 ? 20 * call : -1);
        }
        T.check(3, "call 512", x.terrace(900), -1);
        T.says(0, "The constants: `NONE = -1`: There is none; refused.");
        T.check(1, "NONE", TaleShares.NONE, -1);
        T.check(8, "refused", new TaleShares().known(), TaleShares.NONE);
    }

    private static void tales() {
        T.says(0, "II. A TALE of some pieces: a row of unlike ones of these (2 at least):");
        TaleShares x = by(0, 0, "piece a begins;piece b ends;piece c plain;piece d plain;follows a b;"
                + "follows a c;follows c d;follows d c;follows d b");
        T.due(10, "two: a b; four: a c d b, but not a c d c d b", x, x.tales(15), 2);
        T.due(17, "isTale(12)", x, x.isTale(12), 1);
        T.due(17, "isTale(1342)", x, x.isTale(1342), 1);
        T.due(17, "isTale(134342)", x, x.isTale(134342), 0);
        T.due(17, "isTale(1)", x, x.isTale(1), 0);
        T.due(17, "isTale(2)", x, x.isTale(2), 0);
        T.due(10, "of a and b", x, x.tales(3), 1);
        T.due(10, "of a", x, x.tales(1), 0);
        T.due(10, "of b", x, x.tales(2), 0);
        T.due(10, "without d", x, x.tales(7), 1);
        T.says(0, "the first begins, the last ends, none between does either,");
        x = by(0, 0, "piece a begins;piece b begins;piece c plain;piece d ends;piece e ends;follows a c;"
                + "follows b c;follows c d;follows c e;follows a b;follows d e;follows c b;follows d c");
        for (int row : new int[] {134, 135, 234, 235}) {
            T.due(17, "isTale(" + row + ")", x, x.isTale(row), 1);
        }
        for (int row : new int[] {13, 34, 35, 1234, 1345, 1323, 12, 45, 123}) {
            T.due(17, "isTale(" + row + ")", x, x.isTale(row), 0);
        }
        T.due(10, "tales", x, x.tales(31), 4);
        T.says(0, "each may follow the one ahead of it,");
        x = by(0, 0, "piece a begins;piece b plain;piece c ends;follows a b;follows c b;follows b a");
        T.due(17, "c may not follow b", x, x.isTale(123), 0);
        T.due(10, "c may not follow b", x, x.tales(7), 0);
        x = by(0, 0, "piece a begins;piece b plain;piece c ends;follows a b;follows b c");
        T.due(17, "c may follow b", x, x.isTale(123), 1);
        T.due(17, "c may not follow a", x, x.isTale(13), 0);
        kings();
    }

    private static void kings() {
        T.says(0, "kings among them are no more than told.");
        String five = "piece a begins;piece b king;piece c king;piece d king;piece e king;piece f king;"
                + "piece g ends;follows a b;follows b c;follows c d;follows d e;follows e f;follows f g;"
                + "follows a c;follows a d;follows a e;follows a f;follows a g";
        // A TALE of k kings for k from 0 to 5.
        int[] rows = {17, 167, 1567, 14567, 134567, 1234567};
        for (int told = 0; told <= 4; told++) {
            TaleShares x = by(told, 0, five);
            T.due(10, "tales by " + told, x, x.tales(127), told + 1);
            for (int k = 0; k < rows.length; k++) {
                T.due(17, k + " kings by " + told, x, x.isTale(rows[k]), k <= told ? 1 : 0);
            }
        }
    }

    private static void order() {
        T.says(0, "Rows are ordered piece by piece by numbers");
        TaleShares x = by(0, 0, "piece a ends;piece b plain;piece c begins;piece d plain;piece e begins;"
                + "follows c b;follows c d;follows c a;follows b a;follows d a;follows d b;follows b d;"
                + "follows e a");
        int[][] tales = {{2, 0}, {2, 1, 0}, {2, 1, 3, 0}, {2, 3, 0}, {2, 3, 1, 0}, {4, 0}};
        T.due(10, "tales", x, x.tales(31), tales.length);
        for (int k = 0; k < tales.length; k++) {
            for (int i = 0; i < tales[k].length; i++) {
                T.due(13, "taleAt(31, " + k + ", " + i + ")", x, x.taleAt(31, k, i), tales[k][i]);
            }
            T.refused(13, "its end", x, x.taleAt(31, k, tales[k].length), 1);
        }
        // No TALE is the beginning of another one, for what ends is its last: a row that goes on
        // behind a TALE is none.
        T.says(0, "(a shorter one that is the beginning of a longer one is ahead of it).");
        x = by(0, 0, THREE + ";follows b c");
        T.due(17, "isTale(12)", x, x.isTale(12), 1);
        T.due(17, "isTale(123)", x, x.isTale(123), 0);
        T.due(13, "the shorter one has the lesser second piece", x, x.taleAt(7, 0, 1), 1);
        T.due(13, "the longer one", x, x.taleAt(7, 1, 1), 2);
    }

    private static void knows() {
        T.says(0, "KNOWS: the pieces a house has NOW.");
        TaleShares x = TestHelp.of(TestHelp.BASE);
        T.due(7, "as heard", x, x.house(0, 3), 3);
        x.learn(0, 4);
        x.forget(0, 1);
        T.due(7, "NOW", x, x.house(0, 3), 17);
        T.says(0, "SENSE: a house has SENSE if it KNOWS all pieces of some TALE.");
        T.due(7, "a e", x, x.house(0, 5), 0);
        x.learn(0, 1);
        T.due(7, "a b e", x, x.house(0, 5), 1);
        x.learn(0, 3);
        T.due(7, "and more", x, x.house(0, 5), 1);
        x.forget(0, 0);
        T.due(7, "without a", x, x.house(0, 5), 0);
        T.says(0, "To TELL: a house that isn't silent tells another one all it KNOWS.");
        x = TestHelp.of(TestHelp.BASE);
        T.due(41, "x to y", x, x.tell(0, 1), 3);
        T.due(7, "y", x, x.house(1, 3), 23);
        T.due(7, "x", x, x.house(0, 3), 3);
        T.refused(41, "z is silent", x, x.tell(2, 0), 5);
        T.due(7, "x", x, x.house(0, 3), 3);
        T.due(41, "z hears", x, x.tell(0, 2), 3);
    }

    private static void wantedAndAsk() {
        T.says(0, "III. WANTED by a house: the piece by which, KNOWN too, it has most TALES,"
                + " of like ones the first (more than NOW).");
        String lines = "piece a begins;piece b plain;piece c plain;piece d plain;piece e ends;"
                + "piece f ends;follows a b;follows a c;follows a d;follows b e;follows c e;follows d e;"
                + "follows c f;follows d f;house g at 0 from 0 to 0;heard g a;heard g e";
        TaleShares x = by(0, 0, lines);
        T.due(19, "b, c and d make one each", x, x.wanted(0), 1);
        x.learn(0, 5);
        T.due(19, "c and d make two", x, x.wanted(0), 2);
        x.forget(0, 0);
        x.learn(0, 2);
        T.due(19, "a", x, x.wanted(0), 0);
        x.learn(0, 0);
        x.learn(0, 1);
        T.due(19, "d makes two more", x, x.wanted(0), 3);
        x.learn(0, 3);
        T.due(19, "none makes more than NOW", x, x.wanted(0), -2);
        T.says(0, "ASK by a house: the house that could TELL it, by which it has most TALES then,"
                + " the first such (more than NOW).");
        x = by(0, 0, lines + ";house h at 0 from 0 to 0;house i at 0 from 0 to 0;house j at 0 from 0 to 0;"
                + "house k at 0 from 0 to 0;heard h b;heard i c;heard i f;heard j d;heard j f;heard k b;"
                + "heard k c;heard k d;silent k");
        T.due(20, "i and j make two, the silent k would make more", x, x.ask(0), 2);
        x.forget(2, 5);
        T.due(20, "j makes two", x, x.ask(0), 3);
        x.forget(3, 5);
        T.due(20, "h, i and j make one", x, x.ask(0), 1);
        x.tell(1, 0);
        x.tell(2, 0);
        x.tell(3, 0);
        T.due(20, "none makes more than NOW", x, x.ask(0), -2);
        T.due(20, "the silent one asks", x, x.ask(4), 0);
    }

    /** Houses g, h, .. of which each heard pieces of a to e; one with - is silent. */
    private static TaleShares houses(String... heard) {
        StringBuilder text = new StringBuilder("nurse kings 2 sleeps 50;" + TestHelp.FIVE_PIECES);
        for (int h = 0; h < heard.length; h++) {
            text.append(";house ").append((char) ('g' + h)).append(" at 0 from 0 to 9");
            for (char sign : heard[h].toCharArray()) {
                text.append(sign == '-' ? ";silent " : ";heard ").append((char) ('g' + h));
                text.append(sign == '-' ? "" : " " + sign);
            }
        }
        return TestHelp.of(text.toString());
    }

    private static void park() {
        T.says(0, "PARK: ROUNDS; in each, houses meet two and two, each in one meeting at most;");
        TaleShares x = houses("ab", "", "");
        T.due(24, "g can't meet both at once", x, x.soonest(), 2);
        T.due(26, "one and another one", x, x.mostBehind(1), 2);
        x = houses("ab", "", "", "ab");
        T.due(24, "two meetings at once", x, x.soonest(), 1);
        T.says(0, "both TELL each other what they KNEW ahead of that ROUND (a silent one doesn't).");
        x = houses("a", "b");
        T.due(24, "both", x, x.soonest(), 1);
        x = houses("a-", "b");
        T.due(24, "a silent one", x, x.soonest(), -2);
        T.due(26, "it hears", x, x.mostBehind(1), 1);
        x = houses("a", "b", "c");
        T.due(26, "what was KNOWN ahead", x, x.mostBehind(1), 0);
        T.due(26, "behind two", x, x.mostBehind(2), 2);
        T.says(0, "ALL KNOW ALL if each house KNOWS what any of them KNEW NOW.");
        x = houses("ab", "ab");
        T.due(24, "c, d and e are nobody's", x, x.soonest(), 0);
        x.learn(1, 2);
        T.due(24, "c is somebody's", x, x.soonest(), 1);
        x = houses("a", "a-");
        T.due(24, "the silent one's too", x, x.soonest(), 0);
        x.learn(1, 2);
        T.due(24, "the silent one's too", x, x.soonest(), -2);
    }

    private static void soonest() {
        T.says(0, "SOONEST: the fewest ROUNDS (3 at most).");
        TaleShares x = houses("a");
        T.due(24, "one house", x, x.soonest(), 0);
        x = houses("a", "b");
        T.due(24, "two", x, x.soonest(), 1);
        x = houses("a", "b", "c", "d");
        T.due(24, "four", x, x.soonest(), 2);
        x = houses("a", "b", "c");
        T.due(24, "three", x, x.soonest(), 3);
        x = houses("abcde", "", "", "", "");
        T.due(24, "one KNOWS all: 2, 4, then 8 can", x, x.soonest(), 3);
        x = houses("a", "b", "c", "d", "e");
        T.due(24, "five", x, x.soonest(), -2);
        x = houses("abcde", "-", "-", "-");
        T.due(24, "three silent ones hear one by one", x, x.soonest(), 3);
        x = houses("abcde", "-", "-", "-", "-");
        T.due(24, "four would want a fourth ROUND", x, x.soonest(), -2);
    }

    private static void timetable() {
        T.says(0, "TIMETABLE: an hour for each house, from .. to, unlike ones;");
        TaleShares x = by(0, 0, "piece a ends;house g at 0 from 5 to 6;house h at 0 from 5 to 6");
        T.due(29, "from", x, x.hourOf(0), 5);
        T.due(29, "to", x, x.hourOf(1), 6);
        x = by(0, 0, "piece a ends;house g at 0 from 5 to 5;house h at 0 from 5 to 5");
        T.due(29, "like hours", x, x.hourOf(0), -2);
        x = by(0, 0, "piece a ends;house g at 0 from 5 to 6;house h at 0 from 5 to 6;"
                + "house i at 0 from 5 to 6");
        T.due(30, "three houses, two hours", x, x.orders(), 0);
        T.says(0, "she walks from house to house in that order of hours:");
        x = by(0, 0, "piece a ends;house g at 10 from 2 to 2;house h at 90 from 1 to 1;"
                + "house i at 50 from 3 to 3");
        T.due(27, "90, 10, 50", x, x.walks(), 120);
        T.due(28, "first", x, x.visit(0), 1);
        T.due(28, "then", x, x.visit(1), 0);
        T.due(28, "last", x, x.visit(2), 2);
        T.says(0, "by which she walks least (places apart):");
        x = by(0, 0, "piece a ends;house g at 0 from 0 to 23;house h at 99 from 0 to 23;"
                + "house i at 1 from 0 to 23");
        T.due(27, "0, 1, 99", x, x.walks(), 99);
        T.due(28, "then", x, x.visit(1), 2);
        x = by(0, 0, "piece a ends;house g at 0 from 0 to 0;house h at 99 from 1 to 1;"
                + "house i at 0 from 2 to 2;house j at 99 from 3 to 3;house k at 0 from 4 to 4");
        T.due(27, "there and back twice", x, x.walks(), 396);
        T.says(0, "of like ones the first order of houses by numbers;");
        x = by(0, 0, "piece a ends;house g at 7 from 0 to 23;house h at 3 from 0 to 23;"
                + "house i at 5 from 0 to 23");
        T.due(28, "7, 5, 3 and 3, 5, 7", x, x.visit(0), 0);
        T.due(28, "then", x, x.visit(1), 2);
        x = by(0, 0, "piece a ends;house g at 7 from 1 to 23;house h at 3 from 0 to 0;"
                + "house i at 5 from 0 to 23");
        T.due(28, "3, 5, 7 alone", x, x.visit(0), 1);
        T.says(0, "of an order each has its earliest hour.");
        T.due(29, "h", x, x.hourOf(1), 0);
        T.due(29, "i", x, x.hourOf(2), 1);
        T.due(29, "g", x, x.hourOf(0), 2);
        x = by(0, 0, "piece a ends;house g at 0 from 3 to 23;house h at 0 from 9 to 23");
        T.due(29, "its own first hour", x, x.hourOf(1), 9);
    }

    private static TaleShares mixed(String row) {
        return by(0, 0, THREE + ";piece d plain;mixed " + row);
    }

    private static void slips() {
        T.says(0, "SLIPS: of the mixed row and a TALE of all pieces the fewest pieces to be left out,"
                + " put in, or put in place of one, so that it becomes the TALE:");
        TaleShares x = mixed("a,b");
        T.due(31, "the TALE", x, x.slips(), 0);
        x = mixed("a,d,b");
        T.due(31, "one left out", x, x.slips(), 1);
        x = mixed("d,a,b");
        T.due(31, "the first left out", x, x.slips(), 1);
        x = mixed("d,d,d,d,a,b");
        T.due(31, "the first four left out", x, x.slips(), 4);
        x = mixed("a,b,d,d,d,d");
        T.due(31, "the last four left out", x, x.slips(), 4);
        x = mixed("a");
        T.due(31, "one put in", x, x.slips(), 1);
        x = mixed("a,d");
        T.due(31, "one put in place", x, x.slips(), 1);
        x = mixed("b,a");
        T.due(31, "two put in place", x, x.slips(), 2);
        x = mixed("d,d,d,d,d,d");
        T.due(31, "six", x, x.slips(), 6);
        T.says(0, "the fewest of all TALES; of like ones the first TALE.");
        x = mixed("a,c,b");
        T.due(31, "by the second TALE", x, x.slips(), 0);
        T.due(32, "by the second TALE", x, x.meant(1), 2);
        x = mixed("a,d,b");
        T.due(32, "by both: the first", x, x.meant(1), 1);
        T.due(33, "by both", x, x.meanings(), 2);
    }

    private static void fathers() {
        T.says(0, "TWO FATHERS pay 0 .. 6 each for the hour:");
        TaleShares x = TestHelp.of(TestHelp.BASE);
        T.due(34, "0 and 6", x, x.father(5, 0, 6, false), 0);
        T.due(34, "6 and 0", x, x.father(5, 6, 0, false), 1);
        T.check(34, "7", x.father(5, 7, 0, false), -100);
        T.check(34, "-1", x.father(5, 0, -1, false), -100);
        T.says(0, "who pays more hears, both if alike;");
        T.due(34, "less", x, x.father(5, 2, 3, false), -2);
        T.due(34, "alike", x, x.father(5, 3, 3, false), 2);
        T.due(34, "alike, the other one", x, x.father(5, 3, 3, true), 2);
        T.due(34, "more", x, x.father(5, 4, 3, false), 3);
        T.due(34, "less, the other one", x, x.father(5, 4, 3, true), -3);
        T.says(0, "who hears has so much as it is worth, 2 more if he alone does; each less what he pays.");
        T.due(34, "alone", x, x.father(20, 1, 0, false), 21);
        T.due(34, "both", x, x.father(20, 0, 0, false), 20);
        T.due(34, "alone, the other one", x, x.father(0, 5, 6, true), -4);
        T.due(34, "both, the other one", x, x.father(0, 6, 6, true), -6);
        T.says(0, "REST: a pair by which neither could have more alone.");
        // Worth 6, at 6 and 6 each has 0, as by paying 0; worth 5 each would have -1 there.
        T.due(35, "worth 6", x, x.rests(6), 1);
        T.due(36, "worth 6", x, x.rest(6), 66);
        T.due(35, "worth 5", x, x.rests(5), 0);
        T.due(35, "worth 0: 1 and 0, 0 and 1", x, x.rests(0), 2);
        T.due(35, "worth 1", x, x.rests(1), 0);
    }

    private static void sleep() {
        T.says(0, "SLEEP BY CHANCE: ahead of each piece of a TALE she falls asleep by what was told,"
                + " and tells no more.");
        TaleShares x = by(0, 0, THREE);
        T.due(37, "never", x, x.tells(3, 3, false), 1);
        T.due(37, "never", x, x.tells(3, 0, false), 0);
        x = by(0, 100, THREE);
        T.due(37, "always", x, x.tells(3, 0, false), 1);
        T.due(37, "always", x, x.tells(3, 1, false), 0);
        x = by(0, 25, THREE);
        long[][] want = {{1, 4}, {3, 16}, {9, 64}, {27, 64}};
        for (int many = 0; many <= 3; many++) {
            T.due(37, many + " of 3", x, x.tells(3, many, false), want[many][0]);
            T.due(37, many + " of 3, lower", x, x.tells(3, many, true), want[many][1]);
        }
    }

    private static int seedBehind(int seed) {
        TaleShares x = by(0, 100, "piece a begins;piece b ends;follows a b;house h at 0 from 0 to 0");
        x.seed(seed);
        x.evening(0);
        return x.size(8);
    }

    private static void draws() {
        T.says(0, "EVENINGS by DRAWS (SEED becomes (75 times SEED and 74) mod 65,537):");
        int[][] steps = {{0, 74}, {1, 149}, {872, 65474}, {873, 12}, {45438, 0}, {45439, 75},
            {45437, 65462}, {65535, 65461}, {65536, 65536}};
        for (int[] step : steps) {
            T.check(44, "behind " + step[0], seedBehind(step[0]), step[1]);
        }
        T.says(0, "she tells a house the longest TALE of all pieces (of like ones the first):");
        String house = ";house h at 0 from 0 to 0;house i at 0 from 0 to 0";
        TaleShares x = by(0, 0, THREE + house);
        T.due(44, "a c b, though a b is ahead of it", x, x.evening(0), 3);
        x = by(0, 0, THREE + ";piece d plain;follows a d;follows d b" + house);
        T.due(44, "a c b and a d b", x, x.evening(0), 3);
        T.due(7, "a c b", x, x.house(0, 3), 7);
        T.says(0, "ahead of each piece a DRAW mod 100: below sleeps she falls asleep;");
        // From SEED 0 the DRAWS are 74, 5624; 65536 stays, and 36 is what is left of it by 100.
        int[][] told = {{0, 74, 1}, {0, 75, 0}, {0, 24, 3}, {65536, 36, 3}, {65536, 37, 0},
            {65536, 100, 0}, {65536, 0, 3}};
        for (int[] one : told) {
            x = by(0, one[1], THREE + house);
            x.seed(one[0]);
            T.due(44, "from " + one[0] + " by " + one[1], x, x.evening(1), one[2]);
        }
        x = by(0, 0, THREE + house);
        x.evening(1);
        T.check(44, "three DRAWS for three pieces", x.size(8), 28652);
        // Behind 45438 comes 0, then 74, 5624.
        for (int sleeps = 0; sleeps <= 1; sleeps++) {
            x = by(0, sleeps, THREE + house);
            x.seed(45438);
            T.due(44, "a DRAW of 0 by " + sleeps, x, x.evening(0), sleeps == 0 ? 3 : 0);
        }
        T.says(0, "it KNOWS what she told.");
        x = by(0, 74, THREE + house);
        x.evening(1);
        T.due(44, "the first piece", x, x.house(1, 3), 1);
        T.due(44, "the other house", x, x.house(0, 3), 0);
        T.due(44, "asleep at once", x, x.evening(1), 0);
    }

    private static void acts() {
        T.says(0, "ACTS: TELL, LEARN (a house a piece), FORGET, EVENING (by SEED).");
        TaleShares x = TestHelp.of(TestHelp.BASE);
        x.tell(0, 1);
        T.check(50, "TELL", x.size(9), 1);
        x.learn(0, 4);
        T.check(50, "LEARN", x.size(9), 2);
        x.forget(0, 4);
        T.check(50, "FORGET", x.size(9), 3);
        x.evening(0);
        T.check(50, "EVENING", x.size(9), 4);
        T.check(50, "by SEED", x.size(8), 5624);
        x.seed(9);
        x.evenings(0, 1, 60);
        x.allSense(1, 60);
        x.image();
        T.check(50, "no others", x.size(9), 4);
        x.tell(0, 1);
        T.check(50, "a TELL of nothing new too", x.size(9), 5);
        x.seed(74);
        x.evening(0);
        T.check(50, "an EVENING of no piece too", x.size(9), 6);
    }

    private static void undo() {
        T.says(0, "UNDO: all, SEED too, is as ahead of the latest");
        TaleShares x = TestHelp.of(TestHelp.BASE);
        x.seed(873);
        x.evening(2);
        T.check(46, "SEED", x.size(8), 12);
        T.due(46, "undo", x, x.undo(), true);
        T.check(46, "SEED too", x.size(8), 873);
        x.seed(65536);
        x.learn(0, 2);
        x.seed(5);
        T.due(46, "undo", x, x.undo(), true);
        T.check(46, "SEED as ahead of it", x.size(8), 65536);
        T.due(46, "KNOWS", x, x.house(0, 3), 3);
        T.due(46, "KNOWS", x, x.house(2, 3), 8);
        T.refused(46, "no more", x, x.undo(), 6);
    }

    private static void sixteenAreKept() {
        T.says(0, "(16 are kept).");
        for (int acts = 15; acts <= 18; acts++) {
            TaleShares x = TestHelp.of(TestHelp.BASE);
            for (int k = 0; k < acts; k++) {
                x.seed(k);
                T.due(42, "ACT", x, k % 2 == 0 ? x.learn(0, 4) : x.forget(0, 4), true);
                T.check(50, "ACTS", x.size(9), Math.min(k + 1, 16));
            }
            for (int k = acts - 1; k >= Math.max(acts - 16, 0); k--) {
                T.due(46, "undo of " + acts, x, x.undo(), true);
                T.check(46, "SEED", x.size(8), k);
                T.check(46, "KNOWS", x.house(0, 3), k % 2 == 0 ? 3 : 19);
            }
            T.refused(46, "the oldest of " + acts, x, x.undo(), 6);
        }
    }

    private static void images() {
        T.says(0, "IMAGES: up to 3;");
        TaleShares x = TestHelp.of(TestHelp.BASE);
        for (int k = 0; k < 3; k++) {
            T.due(47, "image", x, x.image(), k);
        }
        T.refused(47, "a fourth", x, x.image(), 3);
        T.check(47, "IMAGES", x.size(10), 3);
        T.says(0, "gone back to one, nothing can be undone.");
        x.learn(0, 4);
        x.learn(0, 3);
        T.check(48, "ACTS", x.size(9), 2);
        x.back(2);
        T.check(48, "ACTS", x.size(9), 0);
        T.refused(48, "undo", x, x.undo(), 6);
        x.learn(0, 4);
        T.due(48, "what is done then can be", x, x.undo(), true);
        T.refused(48, "and no more", x, x.undo(), 6);
    }

    private static void trouble() {
        T.says(0, "IV. TROUBLE of the latest call that may be refused"
                + " (those of which a number is told here):");
        TaleShares x = TestHelp.of(TestHelp.BASE);
        x.seed(-1);
        T.check(51, "seed(-1)", x.trouble(), 2);
        x.trouble();
        x.size(99);
        x.fault();
        x.where();
        for (int k = 0; k < 46; k++) {
            x.feed(0, 0, 0, 0, 0);
        }
        try {
            x.led(9);
        } catch (java.util.NoSuchElementException e) {
            T.check(51, "led(9) and others have no number", x.trouble(), 2);
        }
        x.led(0);
        T.check(51, "led(0)", x.trouble(), 2);
        x.undo();
        T.check(51, "undo", x.trouble(), 6);
        x.known();
        T.check(51, "known", x.trouble(), 0);
        T.says(0, "0 it wasn't; 1 there is none such; 2 a number; 3 no room; 4 a FAULT; 5 not so;"
                + " 6 there is none.");
        x = new TaleShares();
        T.check(51, "no call yet", x.trouble(), 0);
        x.known();
        T.check(51, "none such", x.trouble(), 1);
        x.terrace(-1);
        T.check(51, "a number", x.trouble(), 2);
        x.terrace(0);
        T.check(51, "a FAULT", x.trouble(), 4);
        TestHelp.tell(x, TestHelp.BASE);
        T.check(51, "it wasn't", x.trouble(), 0);
        x.forget(0, 4);
        T.check(51, "not so", x.trouble(), 5);
        x.undo();
        T.check(51, "there is none", x.trouble(), 6);
        for (int k = 0; k < 4; k++) {
            x.image();
        }
        T.check(51, "no room", x.trouble(), 3);
    }

    /** Behind a refused call each other call that goes clears the TROUBLE. */
    private static void troubleByEachCall() {
        TaleShares x = TestHelp.of(TestHelp.BASE);
        for (int call = 0; call < 43; call++) {
            x.house(9, 9);
            T.check(51, "refused", x.trouble(), 1);
            int answer = call < 22 ? ask(x, call) : askOn(x, call);
            T.check(51, "call " + call + ", which answered " + answer, x.trouble(), 0);
        }
    }

    private static int ask(TaleShares x, int call) {
        switch (call) {
            case 0: return x.piece(0, 0);
            case 1: return x.house(0, 0);
            case 2: return x.known();
            case 3: return x.alone(0);
            case 4: return x.tales(0);
            case 5: return x.longest(0);
            case 6: return x.longestAt(31, 0);
            case 7: return x.taleAt(31, 0, 0);
            case 8: return x.used(0);
            case 9: return x.needed(0);
            case 10: return x.leftOver(0);
            case 11: return x.isTale(1);
            case 12: return x.talesOf(0);
            case 13: return x.wanted(0);
            case 14: return x.ask(0);
            case 15: return x.askAll(0);
            case 16: return x.sense();
            case 17: return x.wisest();
            case 18: return x.soonest();
            case 19: return x.mostBehind(0);
            case 20: return x.walks();
            default: return x.visit(0);
        }
    }

    private static int askOn(TaleShares x, int call) {
        switch (call) {
            case 22: return x.hourOf(0);
            case 23: return x.orders();
            case 24: return x.slips();
            case 25: return x.meant(0);
            case 26: return x.meanings();
            case 27: return x.father(0, 1, 0, true);
            case 28: return x.rests(5);
            case 29: return x.rest(5);
            case 30: return (int) x.tells(0, 0, false);
            case 31: return (int) x.mean(0, true);
            case 32: return x.evenings(0, 0, 0);
            case 33: return x.allSense(0, 0);
            case 34: return x.tell(0, 1);
            case 35: return x.learn(0, 4) ? 1 : 0;
            case 36: return x.forget(0, 4) ? 1 : 0;
            case 37: return x.evening(0);
            case 38: return x.seed(0) ? 1 : 0;
            case 39: return x.undo() ? 1 : 0;
            case 40: return x.image();
            case 41: return x.back(0) ? 1 : 0;
            default: return TestHelp.tell(x, TestHelp.BASE);
        }
    }
}
