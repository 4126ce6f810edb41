/** Promises 18 to 30: what houses lack, the park, the timetable. */
public final class HousesTest {
    private static final TestHelp T = new TestHelp();
    private static final String NURSE = "nurse kings 2 sleeps 50;" + TestHelp.FIVE_PIECES + ";";

    public static void main(String[] args) {
        talesAndWanted();
        asking();
        askingAll();
        senseAndWisest();
        soonest();
        fiveHouses();
        silentOnes();
        mostBehind();
        timetable();
        manyTimetables();
        noTimetable();
        refusals();
        T.end();
    }

    /** Houses g, h, i .. at 0 from 0 to 9, each with what it heard. */
    private static TaleShares with(String... heard) {
        StringBuilder text = new StringBuilder(NURSE);
        for (int h = 0; h < heard.length; h++) {
            text.append("house ").append((char) ('g' + h)).append(" at 0 from 0 to 9;");
        }
        for (int h = 0; h < heard.length; h++) {
            for (int i = 0; i < heard[h].length(); i++) {
                char sign = heard[h].charAt(i);
                text.append(sign == '-' ? "silent " : "heard ").append((char) ('g' + h));
                text.append(sign == '-' ? "" : " " + sign).append(';');
            }
        }
        text.setLength(text.length() - 1);
        return TestHelp.of(text.toString());
    }

    private static void talesAndWanted() {
        TaleShares x = with("ab", "abe", "acde", "", "bcd");
        int[] tales = {0, 1, 2, 0, 0};
        int[] wanted = {4, 2, 1, -2, -2};
        for (int h = 0; h < 5; h++) {
            T.due(18, "talesOf(" + h + ")", x, x.talesOf(h), tales[h]);
            T.due(19, "wanted(" + h + ")", x, x.wanted(h), wanted[h]);
        }
        x.learn(4, 0);
        T.due(19, "wanted", x, x.wanted(4), 4);
        x.learn(4, 4);
        T.due(18, "all", x, x.talesOf(4), 5);
        T.due(19, "nothing is wanted", x, x.wanted(4), -2);
        x = TestHelp.of("nurse kings 0 sleeps 0;piece a begins;piece b ends;piece c ends;follows a b;"
                + "follows a c;house h at 0 from 0 to 0;heard h a");
        T.due(19, "of like ones the first", x, x.wanted(0), 1);
    }

    private static void asking() {
        TaleShares x = with("ab", "e", "ce", "ced", "ced-");
        T.due(20, "ask(0)", x, x.ask(0), 3);
        T.due(20, "ask(1)", x, x.ask(1), 0);
        T.due(20, "ask(4)", x, x.ask(4), 0);
        x.forget(3, 4);
        T.due(20, "the first of like ones", x, x.ask(0), 2);
        x = with("ab", "bc", "d");
        T.due(20, "none makes more", x, x.ask(0), -2);
        x = with("abe", "b");
        T.due(20, "not by what it KNOWS", x, x.ask(0), -2);
        x = with("abe-", "ab");
        T.due(20, "a silent one may ask", x, x.ask(0), -2);
        T.due(20, "a silent one doesn't tell", x, x.ask(1), -2);
    }

    private static void askingAll() {
        TaleShares x = with("", "a", "b", "e", "abe-");
        T.due(21, "three are wanted", x, x.askAll(0), 14);
        T.due(21, "it has", x, x.askAll(4), 0);
        T.due(21, "others", x, x.askAll(3), 6);
        x.learn(3, 1);
        T.due(21, "fewer", x, x.askAll(0), 10);
        x.learn(1, 1);
        x.forget(3, 1);
        x.learn(2, 4);
        T.due(21, "of like ones the least bits", x, x.askAll(0), 6);
        x.learn(3, 0);
        x.learn(3, 1);
        T.due(21, "one alone, though of higher bits", x, x.askAll(0), 8);
        x = with("a", "b", "e-");
        T.due(21, "not by all", x, x.askAll(0), -2);
        T.due(21, "a silent one asks", x, x.askAll(2), 3);
    }

    private static void senseAndWisest() {
        TaleShares x = with("ab", "abe", "cd", "ace", "bcd");
        T.due(22, "sense", x, x.sense(), 10);
        T.due(23, "wisest", x, x.wisest(), 1);
        x.learn(4, 4);
        T.due(23, "wisest", x, x.wisest(), 4);
        x = with("", "");
        T.due(22, "sense", x, x.sense(), 0);
        T.due(23, "wisest of those that KNOW nothing", x, x.wisest(), 0);
        x = TestHelp.of(NURSE + "mixed a");
        T.due(22, "without houses", x, x.sense(), 0);
        T.due(23, "without houses", x, x.wisest(), -2);
    }

    private static void meetings(TaleShares x, int round, int... partners) {
        for (int h = 0; h < partners.length; h++) {
            T.due(25, "meets(" + round + ", " + h + ")", x, x.meets(round, h), partners[h]);
        }
    }

    private static void soonest() {
        TaleShares x = with("a", "b", "c", "d");
        T.due(24, "four", x, x.soonest(), 2);
        meetings(x, 0, 1, 0, 3, 2);
        meetings(x, 1, 2, 3, 0, 1);
        T.refused(25, "meets(2, 0)", x, x.meets(2, 0), 1);
        T.refused(25, "meets(-1, 0)", x, x.meets(-1, 0), 1);
        T.refused(25, "meets(0, 4)", x, x.meets(0, 4), 1);
        T.refused(25, "meets(0, -1)", x, x.meets(0, -1), 1);
        x = with("a", "b", "c");
        T.due(24, "three", x, x.soonest(), 3);
        meetings(x, 0, 1, 0, -2);
        meetings(x, 1, 2, -2, 0);
        meetings(x, 2, 1, 0, -2);
        x = with("a", "b");
        T.due(24, "two", x, x.soonest(), 1);
        meetings(x, 0, 1, 0);
        x = with("ab");
        T.due(24, "one", x, x.soonest(), 0);
        T.refused(25, "there is no round", x, x.meets(0, 0), 1);
        x = with("", "", "");
        T.due(24, "nothing is KNOWN", x, x.soonest(), 0);
        x = with("ab", "b", "ab");
        T.due(24, "one lacks", x, x.soonest(), 1);
        meetings(x, 0, 1, 0, -2);
        x = with("ab", "ab", "b");
        T.due(24, "another lacks", x, x.soonest(), 1);
        meetings(x, 0, 2, -2, 0);
        x = with("ab", "ab", "b", "ab");
        meetings(x, 0, 1, 0, 3, 2);
        x.forget(3, 0);
        T.due(24, "two lack", x, x.soonest(), 1);
        meetings(x, 0, 2, 3, 0, 1);
    }

    private static void fiveHouses() {
        TaleShares x = with("a", "b", "c", "d", "e");
        T.due(24, "five", x, x.soonest(), -2);
        T.refused(25, "it isn't so", x, x.meets(0, 0), 1);
        T.due(26, "five behind two", x, x.mostBehind(2), 0);
        x = with("a", "b", "c", "d", "d");
        T.due(24, "five with four pieces", x, x.soonest(), 3);
        meetings(x, 0, 1, 0, 3, 2, -2);
        meetings(x, 1, 2, 3, 0, 1, -2);
        meetings(x, 2, 1, 0, 4, -2, 2);
    }

    private static void silentOnes() {
        TaleShares x = with("a", "b-", "");
        T.due(24, "what a silent one KNOWS alone", x, x.soonest(), -2);
        x = with("ab", "-", "");
        T.due(24, "a silent one hears", x, x.soonest(), 2);
        meetings(x, 0, 1, 0, -2);
        meetings(x, 1, 2, -2, 0);
        x = with("ab-", "ab-", "ab-");
        T.due(24, "silent ones that KNOW all", x, x.soonest(), 0);
        x = with("", "a", "a-");
        T.due(24, "not by the silent one", x, x.soonest(), 1);
        meetings(x, 0, 1, 0, -2);
        x = with("-", "-", "ab");
        T.due(24, "two silent ones", x, x.soonest(), 2);
        meetings(x, 0, 2, -2, 0);
        meetings(x, 1, -2, 2, 1);
    }

    private static void mostBehind() {
        TaleShares x = with("a", "b", "c", "d");
        int[] most = {0, 0, 4};
        for (int r = 0; r < 3; r++) {
            T.due(26, "mostBehind(" + r + ")", x, x.mostBehind(r), most[r]);
        }
        x = with("a", "b", "c");
        T.due(26, "mostBehind(2) of three", x, x.mostBehind(2), 2);
        x = with("ab", "a", "", "a", "");
        T.due(26, "mostBehind(0)", x, x.mostBehind(0), 1);
        T.due(26, "mostBehind(1)", x, x.mostBehind(1), 2);
        T.due(26, "mostBehind(2)", x, x.mostBehind(2), 4);
        T.refused(26, "mostBehind(3)", x, x.mostBehind(3), 2);
        T.refused(26, "mostBehind(-1)", x, x.mostBehind(-1), 2);
        x = with("", "");
        T.due(26, "all KNOW nothing", x, x.mostBehind(0), 2);
        x = TestHelp.of(NURSE + "mixed a");
        T.due(24, "without houses", x, x.soonest(), 0);
        T.due(26, "without houses", x, x.mostBehind(1), 0);
        T.refused(25, "without houses", x, x.meets(0, 0), 1);
    }

    private static void timetable() {
        TaleShares x = TestHelp.of(NURSE + "house g at 50 from 0 to 23;house h at 10 from 4 to 9;"
                + "house i at 90 from 5 to 5;house j at 20 from 4 to 8");
        // i is at 5, so of h and j one at most is ahead of it, and g not between them: of h i j
        // and of j i h three orders each, of i h j and of i j h four.
        T.due(30, "orders", x, x.orders(), 14);
        T.due(27, "walks", x, x.walks(), 80);
        int[] order = {2, 0, 3, 1};
        int[] hours = {6, 8, 5, 7};
        for (int i = 0; i < 4; i++) {
            T.due(28, "visit(" + i + ")", x, x.visit(i), order[i]);
            T.due(29, "hourOf(" + i + ")", x, x.hourOf(i), hours[i]);
        }
        T.refused(28, "visit(4)", x, x.visit(4), 1);
        T.refused(28, "visit(-1)", x, x.visit(-1), 1);
        T.refused(29, "hourOf(4)", x, x.hourOf(4), 1);
    }

    private static void manyTimetables() {
        TaleShares x = TestHelp.of(NURSE + "house g at 50 from 3 to 23;house h at 10 from 4 to 23;"
                + "house i at 90 from 0 to 23");
        T.due(27, "walks", x, x.walks(), 80);
        T.due(30, "orders", x, x.orders(), 6);
        int[] order = {1, 0, 2};
        int[] hours = {5, 4, 6};
        for (int i = 0; i < 3; i++) {
            T.due(28, "visit(" + i + ")", x, x.visit(i), order[i]);
            T.due(29, "hourOf(" + i + ")", x, x.hourOf(i), hours[i]);
        }
        x = TestHelp.of(NURSE + "house g at 50 from 7 to 7");
        T.due(27, "one house", x, x.walks(), 0);
        T.due(28, "one house", x, x.visit(0), 0);
        T.due(29, "one house", x, x.hourOf(0), 7);
        T.due(30, "one house", x, x.orders(), 1);
        T.refused(28, "one house", x, x.visit(1), 1);
        x = TestHelp.of(NURSE + "house g at 5 from 22 to 23;house h at 5 from 22 to 23");
        T.due(27, "at one place", x, x.walks(), 0);
        T.due(28, "the first order", x, x.visit(0), 0);
        T.due(29, "the last hour", x, x.hourOf(1), 23);
        T.due(30, "orders", x, x.orders(), 2);
    }

    private static void noTimetable() {
        TaleShares x = TestHelp.of(NURSE + "house g at 5 from 22 to 23;house h at 5 from 22 to 23;"
                + "house i at 5 from 23 to 23");
        T.due(27, "there is none", x, x.walks(), -2);
        T.due(30, "there is none", x, x.orders(), 0);
        T.refused(28, "there is none", x, x.visit(0), 1);
        T.due(29, "there is none", x, x.hourOf(2), -2);
        T.refused(29, "no such house", x, x.hourOf(3), 1);
        x = TestHelp.of(NURSE + "mixed a");
        T.refused(27, "no house", x, x.walks(), 6);
        T.refused(28, "no house", x, x.visit(0), 1);
        T.refused(29, "no house", x, x.hourOf(0), 1);
        T.refused(30, "no house", x, x.orders(), 6);
    }

    private static void refusals() {
        TaleShares x = new TaleShares();
        T.refused(18, "talesOf", x, x.talesOf(0), 1);
        T.refused(22, "sense", x, x.sense(), 1);
        T.refused(23, "wisest", x, x.wisest(), 1);
        T.refused(24, "soonest", x, x.soonest(), 1);
        T.refused(25, "meets", x, x.meets(0, 0), 1);
        T.refused(26, "mostBehind", x, x.mostBehind(0), 1);
        T.refused(26, "mostBehind(3)", x, x.mostBehind(3), 1);
        T.refused(27, "walks", x, x.walks(), 1);
        T.refused(28, "visit", x, x.visit(0), 1);
        T.refused(29, "hourOf", x, x.hourOf(0), 1);
        T.refused(30, "orders", x, x.orders(), 1);
        x = with("a", "b");
        for (int h : new int[] {-1, 2, Integer.MIN_VALUE, Integer.MAX_VALUE}) {
            T.refused(18, "talesOf(" + h + ")", x, x.talesOf(h), 1);
            T.refused(19, "wanted(" + h + ")", x, x.wanted(h), 1);
            T.refused(20, "ask(" + h + ")", x, x.ask(h), 1);
            T.refused(21, "askAll(" + h + ")", x, x.askAll(h), 1);
            T.refused(25, "meets(0, " + h + ")", x, x.meets(0, h), 1);
            T.refused(28, "visit(" + h + ")", x, x.visit(h), 1);
            T.refused(29, "hourOf(" + h + ")", x, x.hourOf(h), 1);
        }
    }
}
