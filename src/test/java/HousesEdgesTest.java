/** Promises 18 to 30, sentence by sentence, on both sides of each boundary. */
public final class HousesEdgesTest {
    private static final TestHelp T = new TestHelp();
    private static final int MIN = Integer.MIN_VALUE;
    private static final int MAX = Integer.MAX_VALUE;
    private static final String NO_HOUSE = "nurse kings 2 sleeps 50;" + TestHelp.FIVE_PIECES;

    public static void main(String[] args) {
        talesOf();
        wanted();
        ask();
        askAll();
        sense();
        wisest();
        soonest();
        meets();
        meetsRefused();
        mostBehind();
        walks();
        visit();
        hourOf();
        orders();
        T.end();
    }

    /** Houses g, h, .. of which each heard pieces of a to e; one with - is silent. */
    private static TaleShares houses(String... heard) {
        StringBuilder text = new StringBuilder(NO_HOUSE);
        for (int h = 0; h < heard.length; h++) {
            text.append(";house ").append((char) ('g' + h)).append(" at 0 from 0 to 9");
            for (char sign : heard[h].toCharArray()) {
                text.append(sign == '-' ? ";silent " : ";heard ").append((char) ('g' + h));
                text.append(sign == '-' ? "" : " " + sign);
            }
        }
        return TestHelp.of(text.toString());
    }

    private static TaleShares table(String... houses) {
        StringBuilder text = new StringBuilder("nurse kings 0 sleeps 0;piece a ends");
        for (int h = 0; h < houses.length; h++) {
            text.append(";house ").append((char) ('g' + h)).append(" at ").append(houses[h]);
        }
        return TestHelp.of(text.toString());
    }

    private static int byHouse(int promise, TaleShares x, int h) {
        switch (promise) {
            case 18: return x.talesOf(h);
            case 19: return x.wanted(h);
            case 20: return x.ask(h);
            case 21: return x.askAll(h);
            case 28: return x.visit(h);
            default: return x.hourOf(h);
        }
    }

    /** No such house, on both sides of those that are. */
    private static void refusedHouses(int promise) {
        for (int many = 1; many <= 5; many++) {
            String[] heard = {"", "", "", "", ""};
            TaleShares x = houses(java.util.Arrays.copyOf(heard, many));
            int first = byHouse(promise, x, 0);
            T.check(promise, "the first of " + many + " is " + first, x.trouble(), 0);
            int last = byHouse(promise, x, many - 1);
            T.check(promise, "the last of " + many + " is " + last, x.trouble(), 0);
            for (int wrong : new int[] {-1, many, many + 1, 32, MIN, MAX}) {
                T.refused(promise, wrong + " of " + many, x, byHouse(promise, x, wrong), 1);
            }
        }
        TaleShares x = TestHelp.of(NO_HOUSE);
        T.refused(promise, "no house", x, byHouse(promise, x, 0), 1);
        x = new TaleShares();
        T.refused(promise, "no TERRACE", x, byHouse(promise, x, 0), 1);
        T.refused(promise, "no TERRACE", x, byHouse(promise, x, -1), 1);
    }

    private static void talesOf() {
        T.says(18, "How many TALES a house KNOWS.");
        // TALES: a b c d e, a b c e, a b e, a c d e, a c e
        String[] heard = {"", "abe", "abce", "ace", "bcd"};
        int[] want = {0, 1, 3, 1, 0};
        TaleShares x = houses(heard);
        for (int h = 0; h < 5; h++) {
            T.due(18, "talesOf(" + h + ")", x, x.talesOf(h), want[h]);
        }
        x.learn(2, 3);
        T.due(18, "all", x, x.talesOf(2), 5);
        x.forget(2, 4);
        T.due(18, "without its end", x, x.talesOf(2), 0);
        T.says(18, "NONE: 1.");
        refusedHouses(18);
    }

    private static void wanted() {
        T.says(19, "WANTED; -2 none makes more.");
        TaleShares x = houses("ab", "abce", "abcde", "", "b");
        T.due(19, "e", x, x.wanted(0), 4);
        T.due(19, "d", x, x.wanted(1), 3);
        T.due(19, "it KNOWS all", x, x.wanted(2), -2);
        T.due(19, "it KNOWS nothing", x, x.wanted(3), -2);
        T.due(19, "two are wanted, one makes none", x, x.wanted(4), -2);
        x.learn(4, 4);
        T.due(19, "a, the first piece", x, x.wanted(4), 0);
        T.says(19, "NONE: 1.");
        refusedHouses(19);
    }

    private static void ask() {
        T.says(20, "ASK; -2 none makes more.");
        TaleShares x = houses("a", "e", "b", "be", "be-");
        T.due(20, "h makes none, j one", x, x.ask(0), 3);
        T.due(20, "g makes one", x, x.ask(3), 0);
        T.due(20, "nobody makes one of e", x, x.ask(1), -2);
        T.due(20, "the silent one asks g", x, x.ask(4), 0);
        x.forget(3, 1);
        T.due(20, "the silent one alone would", x, x.ask(0), -2);
        x.learn(2, 4);
        T.due(20, "i makes one", x, x.ask(0), 2);
        x = houses("abe");
        T.due(20, "there is no other one", x, x.ask(0), -2);
        T.says(20, "NONE: 1.");
        refusedHouses(20);
    }

    private static void askAll() {
        T.says(21, "The fewest houses (the least bits of like ones) that, telling it all one behind"
                + " the other, give it SENSE, as bits;");
        TaleShares x = houses("", "a", "b", "e", "");
        T.due(21, "three", x, x.askAll(0), 2 + 4 + 8);
        T.due(21, "three for the last", x, x.askAll(4), 2 + 4 + 8);
        T.due(21, "two", x, x.askAll(1), 4 + 8);
        x.learn(4, 0);
        x.learn(4, 1);
        T.due(21, "two, of higher bits", x, x.askAll(0), 8 + 16);
        x.learn(1, 1);
        T.due(21, "two, the least bits", x, x.askAll(0), 2 + 8);
        x.learn(4, 4);
        T.due(21, "one", x, x.askAll(0), 16);
        x = houses("a", "b", "e", "", "");
        T.due(21, "the first house too", x, x.askAll(1), 1 + 4);
        T.due(21, "the first house too", x, x.askAll(4), 1 + 2 + 4);
        x = houses("c", "a", "b", "e", "");
        T.due(21, "its own c too", x, x.askAll(0), 2 + 8);
        T.says(21, "0 it has; -2 not by all.");
        x = houses("abe-", "ab", "e", "c", "");
        T.due(21, "it has", x, x.askAll(0), 0);
        T.due(21, "i", x, x.askAll(1), 4);
        x.forget(2, 4);
        T.due(21, "the silent one alone has e", x, x.askAll(1), -2);
        x.learn(1, 4);
        T.due(21, "it has", x, x.askAll(1), 0);
        x = houses("ab");
        T.due(21, "alone", x, x.askAll(0), -2);
        T.says(21, "NONE: 1.");
        refusedHouses(21);
    }

    private static void sense() {
        T.says(22, "Houses that have SENSE, as bits.");
        TaleShares x = houses("abe", "ab", "", "be", "ace");
        T.due(22, "first and last", x, x.sense(), 1 + 16);
        x.learn(1, 4);
        T.due(22, "the second too", x, x.sense(), 1 + 2 + 16);
        x.forget(0, 0);
        T.due(22, "not the first", x, x.sense(), 2 + 16);
        x = houses("", "");
        T.due(22, "none", x, x.sense(), 0);
        x = TestHelp.of(NO_HOUSE);
        T.due(22, "no house", x, x.sense(), 0);
        T.says(22, "NONE: 1 (no TERRACE).");
        x = new TaleShares();
        T.refused(22, "no TERRACE", x, x.sense(), 1);
        TestHelp.tell(x, NO_HOUSE);
        T.due(22, "a TERRACE", x, x.sense(), 0);
    }

    private static void wisest() {
        T.says(23, "The house that KNOWS most, the first such;");
        TaleShares x = houses("a", "bc", "de", "", "abd");
        T.due(23, "three", x, x.wisest(), 4);
        x.forget(4, 0);
        T.due(23, "two each", x, x.wisest(), 1);
        x.learn(0, 1);
        T.due(23, "two each", x, x.wisest(), 0);
        x.learn(2, 0);
        T.due(23, "three", x, x.wisest(), 2);
        x = houses("", "");
        T.due(23, "nothing each", x, x.wisest(), 0);
        T.says(23, "-2 there is none.");
        x = TestHelp.of(NO_HOUSE);
        T.due(23, "no house", x, x.wisest(), -2);
        x = houses("");
        T.due(23, "one house", x, x.wisest(), 0);
        T.says(23, "NONE: 1 (no TERRACE).");
        x = new TaleShares();
        T.refused(23, "no TERRACE", x, x.wisest(), 1);
        TestHelp.tell(x, NO_HOUSE);
        T.due(23, "a TERRACE", x, x.wisest(), -2);
    }

    private static void soonest() {
        T.says(24, "SOONEST: the ROUNDS; -2 three aren't enough.");
        TaleShares x = houses("a", "b", "c", "d", "d");
        T.due(24, "three", x, x.soonest(), 3);
        x.forget(4, 3);
        x.learn(4, 4);
        T.due(24, "three aren't enough", x, x.soonest(), -2);
        x.forget(4, 4);
        T.due(24, "three", x, x.soonest(), 3);
        x = houses("", "", "", "", "");
        T.due(24, "nothing is KNOWN", x, x.soonest(), 0);
        x.learn(2, 0);
        T.due(24, "one KNOWS it", x, x.soonest(), 3);
        x.learn(0, 0);
        T.due(24, "two KNOW it", x, x.soonest(), 2);
        x.learn(1, 0);
        T.due(24, "three KNOW it", x, x.soonest(), 1);
        x = houses("a-", "");
        T.due(24, "a silent one alone KNOWS it", x, x.soonest(), -2);
        x = TestHelp.of(NO_HOUSE);
        T.due(24, "no house", x, x.soonest(), 0);
        T.says(24, "NONE: 1 (no TERRACE).");
        x = new TaleShares();
        T.refused(24, "no TERRACE", x, x.soonest(), 1);
        TestHelp.tell(x, NO_HOUSE);
        T.due(24, "a TERRACE", x, x.soonest(), 0);
    }

    private static void meetings(TaleShares x, int r, int... partners) {
        for (int h = 0; h < partners.length; h++) {
            x.seed(-1);
            T.due(25, "meets(" + r + ", " + h + ")", x, x.meets(r, h), partners[h]);
        }
    }

    private static void meets() {
        T.says(25, "The meetings of the r-th ROUND (0 ..) of the first way by which it is so:");
        TaleShares x = houses("a", "b", "c");
        meetings(x, 0, 1, 0, -2);
        meetings(x, 1, 2, -2, 0);
        meetings(x, 2, 1, 0, -2);
        x = houses("a", "b", "c", "d");
        meetings(x, 0, 1, 0, 3, 2);
        meetings(x, 1, 2, 3, 0, 1);
        x = houses("b", "a", "b", "a");
        // 0 with 1 and 2 with 3 is the first of both that do.
        meetings(x, 0, 1, 0, 3, 2);
        x = houses("a", "a", "b", "b");
        meetings(x, 0, 2, 3, 0, 1);
        T.says(25, "with whom a house meets; -2 nobody.");
        x = houses("", "", "", "", "ab");
        x.learn(0, 0);
        x.learn(0, 1);
        x.learn(1, 0);
        x.learn(1, 1);
        // 2 and 3 lack it: 2 meets 0, for 0 with 1 would leave 4 to one of them alone.
        meetings(x, 0, 2, 3, 0, 1, -2);
        x = houses("ab", "ab", "ab", "ab", "");
        meetings(x, 0, 1, 0, 4, -2, 2);
        T.says(25, "(ROUNDS are ordered by houses' partners: nobody behind all, house by house.)");
        x = houses("ab", "", "ab");
        // 1 with 0, not with 2; who meets somebody is ahead of who doesn't.
        meetings(x, 0, 1, 0, -2);
        x = houses("ab", "ab", "");
        meetings(x, 0, 2, -2, 0);
        x = houses("a-", "a", "");
        // 0 with nobody alone lets 1 meet 2.
        meetings(x, 0, -2, 2, 1);
        x = houses("ab", "a", "ab", "ab", "ab");
        meetings(x, 0, 1, 0, 3, 2, -2);
    }

    private static void meetsRefused() {
        T.says(25, "NONE: 1 (r, too; it isn't so).");
        TaleShares x = houses("a", "b", "c");
        T.due(25, "meets(2, 2)", x, x.meets(2, 2), -2);
        for (int wrong : new int[] {-1, 3, 4, MIN, MAX}) {
            T.refused(25, "meets(" + wrong + ", 0)", x, x.meets(wrong, 0), 1);
            T.refused(25, "meets(0, " + wrong + ")", x, x.meets(0, wrong), 1);
        }
        x = houses("a", "b");
        T.due(25, "meets(0, 1)", x, x.meets(0, 1), 0);
        T.refused(25, "meets(1, 1)", x, x.meets(1, 1), 1);
        x = houses("a", "a");
        T.refused(25, "no ROUND", x, x.meets(0, 0), 1);
        x = houses("a", "b", "c", "d", "e");
        T.refused(25, "it isn't so", x, x.meets(0, 0), 1);
        T.refused(25, "it isn't so", x, x.meets(2, 4), 1);
        x = TestHelp.of(NO_HOUSE);
        T.refused(25, "no house", x, x.meets(0, 0), 1);
        x = new TaleShares();
        T.refused(25, "no TERRACE", x, x.meets(0, 0), 1);
    }

    private static void mostBehind() {
        T.says(26, "How many houses KNOW all (what any of them KNEW NOW) at most behind so many"
                + " ROUNDS (0 .. 2).");
        TaleShares x = houses("abcde", "", "", "", "");
        int[] one = {1, 2, 4};
        for (int r = 0; r <= 2; r++) {
            T.due(26, "one KNOWS all, behind " + r, x, x.mostBehind(r), one[r]);
        }
        x = houses("a", "b", "c", "d", "e");
        for (int r = 0; r <= 2; r++) {
            T.due(26, "five pieces, behind " + r, x, x.mostBehind(r), 0);
        }
        x = houses("a", "b", "c", "d", "");
        int[] four = {0, 0, 4};
        for (int r = 0; r <= 2; r++) {
            T.due(26, "four pieces, behind " + r, x, x.mostBehind(r), four[r]);
        }
        x = houses("a-", "", "");
        T.due(26, "a silent one", x, x.mostBehind(2), 1);
        x = houses("", "", "", "", "");
        T.due(26, "nothing is KNOWN", x, x.mostBehind(0), 5);
        x = TestHelp.of(NO_HOUSE);
        T.due(26, "no house", x, x.mostBehind(2), 0);
        T.says(26, "NONE: 1 (no TERRACE); 2.");
        for (int wrong : new int[] {-1, 3, 4, MIN, MAX}) {
            T.refused(26, "mostBehind(" + wrong + ")", x, x.mostBehind(wrong), 2);
        }
        x = new TaleShares();
        for (int rounds = -1; rounds <= 3; rounds++) {
            T.refused(26, "no TERRACE", x, x.mostBehind(rounds), 1);
        }
    }

    private static void walks() {
        T.says(27, "TIMETABLE: how far she walks; -2 there is none.");
        TaleShares x = table("99 from 0 to 0");
        T.due(27, "one house", x, x.walks(), 0);
        x = table("99 from 0 to 1", "0 from 0 to 1");
        T.due(27, "two", x, x.walks(), 99);
        x = table("99 from 1 to 1", "0 from 1 to 1");
        T.due(27, "two at one hour", x, x.walks(), -2);
        x = table("0 from 19 to 23", "0 from 19 to 23", "0 from 19 to 23", "0 from 19 to 23",
                "7 from 19 to 23");
        T.due(27, "five, five hours", x, x.walks(), 7);
        x = table("0 from 20 to 23", "0 from 20 to 23", "0 from 20 to 23", "0 from 20 to 23",
                "7 from 20 to 23");
        T.due(27, "five, four hours", x, x.walks(), -2);
        T.says(27, "NONE: 1 (no TERRACE); 6 (no house).");
        x = new TaleShares();
        T.refused(27, "no TERRACE", x, x.walks(), 1);
        TestHelp.tell(x, NO_HOUSE);
        T.refused(27, "no house", x, x.walks(), 6);
    }

    private static void visit() {
        T.says(28, "The i-th house of it.");
        TaleShares x = table("5 from 4 to 4", "5 from 3 to 3", "5 from 2 to 2", "5 from 1 to 1",
                "5 from 0 to 0");
        for (int i = 0; i < 5; i++) {
            T.due(28, "visit(" + i + ")", x, x.visit(i), 4 - i);
        }
        T.says(28, "NONE: 1 (i, too; there is none).");
        refusedHouses(28);
        x = table("5 from 4 to 4", "5 from 4 to 4");
        T.refused(28, "there is none", x, x.visit(0), 1);
        T.refused(28, "there is none", x, x.visit(1), 1);
    }

    private static void hourOf() {
        T.says(29, "The hour of a house by it; -2 there is none.");
        TaleShares x = table("5 from 19 to 23", "5 from 19 to 23", "5 from 19 to 23", "5 from 19 to 23",
                "5 from 0 to 23");
        int[] hours = {19, 20, 21, 22, 23};
        for (int h = 0; h < 5; h++) {
            T.due(29, "hourOf(" + h + ")", x, x.hourOf(h), hours[h]);
        }
        x = table("5 from 2 to 2", "9 from 0 to 0", "7 from 1 to 1");
        T.due(29, "by the only order", x, x.hourOf(0), 2);
        T.due(29, "by the only order", x, x.hourOf(1), 0);
        T.due(29, "by the only order", x, x.hourOf(2), 1);
        x = table("5 from 0 to 0", "9 from 0 to 0", "7 from 5 to 6");
        for (int h = 0; h < 3; h++) {
            T.due(29, "there is none", x, x.hourOf(h), -2);
        }
        T.refused(29, "no house 3", x, x.hourOf(3), 1);
        T.says(29, "NONE: 1.");
        refusedHouses(29);
    }

    private static void orders() {
        T.says(30, "How many orders can be kept.");
        TaleShares x = table("1 from 0 to 4", "2 from 0 to 4", "3 from 0 to 4", "4 from 0 to 4",
                "5 from 0 to 4");
        T.due(30, "all of five", x, x.orders(), 120);
        x = table("1 from 0 to 3", "2 from 0 to 4", "3 from 0 to 4", "4 from 0 to 4", "5 from 0 to 4");
        T.due(30, "not the first at the last hour", x, x.orders(), 96);
        x = table("1 from 1 to 1", "2 from 0 to 1");
        T.due(30, "one", x, x.orders(), 1);
        x = table("1 from 1 to 1", "2 from 0 to 2");
        T.due(30, "two", x, x.orders(), 2);
        x = table("1 from 1 to 1", "2 from 1 to 1");
        T.due(30, "none", x, x.orders(), 0);
        T.says(30, "NONE: 1 (no TERRACE); 6.");
        x = new TaleShares();
        T.refused(30, "no TERRACE", x, x.orders(), 1);
        TestHelp.tell(x, NO_HOUSE);
        T.refused(30, "no house", x, x.orders(), 6);
    }
}
