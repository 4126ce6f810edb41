/** Promises 1 to 5: a new object, the tape, texts and their faults. */
public final class TerraceTest {
    private static final TestHelp T = new TestHelp();
    private static final String NURSE = TestHelp.NURSE;
    private static final String PIECES = TestHelp.PIECES;
    private static final String HOUSE = TestHelp.HOUSE;

    public static void main(String[] args) {
        aNewObject();
        feeding();
        reading();
        refusedNumbers();
        forms();
        endings();
        names();
        repeats();
        bounds();
        many();
        lacks();
        theLeftmost();
        aFaultLeavesTheTerrace();
        wordsLetterByLetter();
        cutWithinTokens();
        nothingIsLeftOfOtherTexts();
        whereAndFault();
        T.end();
    }

    private static void aNewObject() {
        TaleShares x = new TaleShares();
        T.check(1, "trouble", x.trouble(), 0);
        T.check(1, "fault", x.fault(), 0);
        T.check(1, "where", x.where(), -1);
        for (int what = 0; what <= 11; what++) {
            T.check(1, "size " + what, x.size(what), 0);
        }
        T.refused(1, "known", x, x.known(), 1);
        T.refused(1, "tales(0)", x, x.tales(0), 1);
        T.refused(1, "piece(0, 0)", x, x.piece(0, 0), 1);
        T.refused(1, "house(0, 0)", x, x.house(0, 0), 1);
    }

    private static void feeding() {
        TaleShares x = new TaleShares();
        for (int k = 1; k <= 45; k++) {
            T.check(2, "feed", x.feed(0, -1, 2, Integer.MIN_VALUE, 4), 20 * k);
        }
        T.check(2, "feed beyond 900", x.feed(0, 0, 0, 0, 0), -1);
        T.check(2, "size(11)", x.size(11), 900);
        x.known();
        T.check(2, "feed beyond 900", x.feed(0, 0, 0, 0, 0), -1);
        T.check(51, "feed leaves the trouble", x.trouble(), 1);
        T.refused(3, "terrace(901)", x, x.terrace(901), 2);
        T.check(3, "the tape stays", x.size(11), 900);
        T.refused(3, "terrace(900)", x, x.terrace(900), 4);
        T.check(3, "the tape is empty", x.size(11), 0);
        T.check(2, "feed", x.feed(0, 0, 0, 0, 0), 20);
        T.check(51, "feed leaves the trouble", x.trouble(), 4);
        T.check(5, "feed leaves where", x.where(), 0);
        StringBuilder full = new StringBuilder(PIECES.substring(0, PIECES.length() - 1));
        while (full.length() < 900) {
            full.insert(NURSE.length(), ' ');
        }
        T.sound(full.toString(), 2);
    }

    private static void reading() {
        T.sound(TestHelp.BASE, 5);
        T.sound("nurse kings 0 sleeps 0;piece a plain", 1);
        T.sound("  nurse  kings 004sleeps100 ; piece a begins;piece kings king;follows a kings;"
                + "house begins at 99 from 0 to 23;heard begins a;silent begins;mixed a , kings,a  ", 2);
        T.sound(NURSE + "piece abcdefgh begins;piece abcdefgi ends;piece abcdefg king", 3);
        T.sound(NURSE + "house h at 0 from 23 to 23;piece a ends;heard h a", 1);
        TaleShares x = new TaleShares();
        TestHelp.feed(x, PIECES + "and more");
        T.due(3, "only the first bytes", x, x.terrace(PIECES.length() - 1), 2);
        T.check(3, "the tape is empty", x.size(11), 0);
        x = TestHelp.of(TestHelp.BASE);
        x.learn(0, 4);
        x.seed(9);
        x.image();
        T.due(3, "another terrace", x, TestHelp.tell(x, HOUSE + "heard h b"), 2);
        T.check(3, "houses KNOW what they heard", x.house(0, 3), 2);
        T.check(3, "SEED", x.size(8), 0);
        T.check(3, "nothing to undo", x.size(9), 0);
        T.check(3, "no IMAGES", x.size(10), 0);
        T.check(3, "no follows of the other", x.piece(0, 1), 0);
        T.check(3, "no mixed row of the other", x.size(7), 0);
        T.check(3, "no silent one of the other", x.size(6), 0);
        T.check(3, "no TALES of the other", x.tales(3), 0);
        T.refused(3, "no image to go back to", x, x.back(0), 1);
        T.refused(3, "nothing to undo", x, x.undo(), 6);
    }

    private static void refusedNumbers() {
        TaleShares x = new TaleShares();
        T.refused(3, "terrace(-1)", x, x.terrace(-1), 2);
        T.refused(3, "terrace(1)", x, x.terrace(1), 2);
        T.check(5, "where", x.where(), -1);
        TestHelp.feed(x, PIECES);
        int size = x.size(11);
        T.refused(3, "terrace(MIN)", x, x.terrace(Integer.MIN_VALUE), 2);
        T.refused(3, "terrace(MAX)", x, x.terrace(Integer.MAX_VALUE), 2);
        T.refused(3, "one too many", x, x.terrace(size + 1), 2);
        T.check(3, "the tape stays", x.size(11), size);
        T.due(3, "then it is read", x, x.terrace(PIECES.length() - 1), 2);
    }

    private static void forms() {
        T.faultAt("", "odd", 1);
        T.faultAt("", "kings 1", 1);
        T.faultAt("  ", "5", 1);
        T.faultAt("", ";", 1);
        T.faultAt("", ",", 1);
        T.faultAt("", "Nurse", 1);
        T.faultAt("nurse", "\tkings", 1);
        T.faultAt("nurse ", "king 1", 1);
        T.faultAt("nurse kings ", "sleeps", 1);
        T.faultAt("nurse kings ", "0001 sleeps 5", 1);
        T.faultAt("nurse kings 1 ", "sleep 5", 1);
        T.faultAt("nurse kings 1 ", "; sleeps 5", 1);
        T.faultAt(NURSE, "piecea begins", 1);
        T.faultAt(NURSE, ";piece a begins", 1);
        T.faultAt(NURSE + "piece ", "abcdefghi begins", 1);
        T.faultAt(NURSE + "piece ", "7 begins", 1);
        T.faultAt(NURSE + "piece a ", "begin", 1);
        T.faultAt(NURSE + "piece a ", "piece", 1);
        T.faultAt(NURSE + "piece a ", "plains", 1);
        T.faultAt(NURSE + "piece a king", "-", 1);
        T.faultAt(NURSE + "piece a king", (char) 233 + "", 1);
        T.faultAt(NURSE + "piece a king", (char) 0 + "", 1);
        T.faultAt(NURSE + "piece a king ", "king", 1);
        T.faultAt(NURSE + "piece a king ", ", piece b king", 1);
        for (String word : "nurse piece follows house heard silent mixed".split(" ")) {
            T.faultAt(NURSE + "piece ", word + " begins", 1);
            T.faultAt(NURSE + "house ", word + " at 5", 1);
            T.faultAt(PIECES + "follows ", word, 1);
            T.faultAt(PIECES + "follows a ", word, 1);
            T.faultAt(HOUSE + "heard ", word, 1);
            T.faultAt(HOUSE + "heard h ", word, 1);
            T.faultAt(HOUSE + "silent ", word, 1);
            T.faultAt(HOUSE + "mixed a,", word, 1);
        }
        T.faultAt(PIECES + "house h ", "in 5", 1);
        T.faultAt(PIECES + "house h at ", "x", 1);
        T.faultAt(PIECES + "house h at 5 ", "to 5", 1);
        T.faultAt(PIECES + "house h at 5 from 5 ", "at 5", 1);
        T.faultAt(PIECES + "house h at 5 from 5 to ", "1000", 1);
        T.faultAt(PIECES + "follows a b ", "a", 1);
        T.faultAt(HOUSE + "silent h", ",h", 1);
        T.faultAt(HOUSE + "mixed ", ",a", 1);
        T.faultAt(HOUSE + "mixed a ", "b", 1);
        T.faultAt(HOUSE + "mixed a, ", ",b", 1);
    }

    private static void endings() {
        T.fault("", 1, 0);
        T.fault("     ", 1, 5);
        T.fault("nurse", 1, 5);
        T.fault("nurse kings 1 sleeps  ", 1, 22);
        for (String text : new String[] {NURSE, NURSE + "piece", NURSE + "piece a", PIECES,
            PIECES + "follows", PIECES + "follows a", PIECES + "house", PIECES + "house g at 5 from",
            PIECES + "house g at 5 from 6 to", HOUSE + "heard", HOUSE + "heard h", HOUSE + "silent",
            HOUSE + "mixed", HOUSE + "mixed a,"}) {
            T.fault(text, 1, text.length());
        }
    }

    private static void names() {
        T.faultAt(PIECES + "follows ", "c b", 2);
        T.faultAt(PIECES + "follows a ", "c", 2);
        T.faultAt(HOUSE + "follows ", "h a", 2);
        T.faultAt(HOUSE + "follows a ", "h", 2);
        T.faultAt(HOUSE + "follows a ", "abcdefgh", 2);
        T.faultAt(HOUSE + "heard ", "g a", 2);
        T.faultAt(HOUSE + "heard ", "a a", 2);
        T.faultAt(HOUSE + "heard h ", "h", 2);
        T.faultAt(HOUSE + "heard h ", "aa", 2);
        T.faultAt(HOUSE + "silent ", "a", 2);
        T.faultAt(HOUSE + "silent ", "hh", 2);
        T.faultAt(HOUSE + "mixed ", "h", 2);
        T.faultAt(HOUSE + "mixed a,b,", "c", 2);
        T.faultAt(HOUSE + "mixed a,a,a,a,a,a,", "c", 2);
        T.faultAt(HOUSE + "follows ", "kings a", 2);
        T.faultAt(NURSE + "follows ", "a b;piece a begins;piece b ends", 2);
    }

    private static void repeats() {
        T.faultAt(HOUSE + "piece ", "a begins", 3);
        T.faultAt(HOUSE + "piece ", "h begins", 3);
        T.faultAt(HOUSE + "house ", "h at 5 from 3 to 4", 3);
        T.faultAt(HOUSE + "house ", "b at 5 from 3 to 4", 3);
        T.faultAt(HOUSE + "follows a ", "a", 3);
        T.faultAt(HOUSE + "follows a b;follows a ", "b", 3);
        T.sound(HOUSE + "follows a b;follows b a", 2);
        T.faultAt(HOUSE + "heard h b;heard h a;heard h ", "b", 3);
        T.faultAt(HOUSE + "silent h;silent ", "h", 3);
        T.faultAt(HOUSE, "nurse kings 1 sleeps 5", 3);
        T.faultAt(NURSE, "nurse", 3);
        T.faultAt(HOUSE + "mixed a;", "mixed b", 3);
    }

    private static void bounds() {
        T.faultAt("nurse kings ", "5 sleeps 5", 4);
        T.faultAt("nurse kings 4 sleeps ", "101", 4);
        T.faultAt(PIECES + "house h at ", "100 from 3 to 4", 4);
        T.faultAt(PIECES + "house h at 5 from ", "24 to 24", 4);
        T.faultAt(PIECES + "house h at 5 from 23 to ", "24", 4);
        T.faultAt(PIECES + "house h at 5 from 5 to ", "4", 4);
        T.faultAt(PIECES + "house h at 5 from 0 to ", "999", 4);
        T.sound("nurse kings 4 sleeps 100;piece a begins;house h at 99 from 0 to 23", 1);
        T.sound(PIECES + "house h at 0 from 23 to 23", 2);
    }

    private static String lines(String line, int many) {
        StringBuilder text = new StringBuilder();
        for (int i = 0; i < many; i++) {
            text.append(line.replace('#', (char) ('p' + i))).append(';');
        }
        return text.toString();
    }

    private static void many() {
        String eight = NURSE + lines("piece # plain", 8);
        T.sound(eight.substring(0, eight.length() - 1), 8);
        T.faultAt(eight, "piece z plain", 5);
        T.faultAt(eight, "piece", 5);
        String five = PIECES + lines("house # at 1 from 1 to 1", 5);
        T.sound(five.substring(0, five.length() - 1), 2);
        T.faultAt(five, "house z at 1 from 1 to 1", 5);
        String pairs = "";
        int told = 0;
        for (char first = 'p'; first < 'x' && told < 14; first++) {
            for (char second = 'p'; second < 'x' && told < 14; second++) {
                if (first != second) {
                    pairs += "follows " + first + " " + second + ";";
                    told++;
                }
            }
        }
        T.sound(eight + pairs + "house h at 0 from 0 to 0", 8);
        T.faultAt(eight + pairs, "follows w p", 5);
        T.faultAt(eight + pairs, "follows", 5);
        String heard = eight + "house g at 0 from 0 to 0;house h at 0 from 0 to 0;"
                + lines("heard g #", 7) + lines("heard h #", 7);
        T.sound(heard.substring(0, heard.length() - 1), 8);
        T.faultAt(heard, "heard h w", 5);
        T.faultAt(heard, "heard", 5);
        T.sound(HOUSE + "mixed a,b,a,b,a,b", 2);
        T.faultAt(HOUSE + "mixed a,a,a,a,a,a,", "a", 5);
        T.faultAt(HOUSE + "mixed a,a,a,a,a,a,", "b,b", 5);
        T.faultAt(HOUSE + "mixed a,a,a,a,a,a,", "nurse", 1);
        T.faultAt(HOUSE + "mixed a,a,a,a,a,a,", ",", 1);
    }

    private static void lacks() {
        T.faultAt(" ", "piece a begins", 6);
        T.faultAt("", "follows a b", 6);
        T.faultAt("", "house h at 5 from 3 to 4", 6);
        T.faultAt("", "heard h a", 6);
        T.faultAt("", "silent h", 6);
        T.faultAt("", "mixed a", 6);
        T.faultAt("", "mixed", 6);
        T.faultAt("", "piece a begins;nurse kings 1 sleeps 5", 6);
        T.fault("nurse kings 1 sleeps 5", 6, 22);
        T.fault("nurse kings 1 sleeps 5   ", 6, 25);
        String houses = NURSE + "house h at 5 from 3 to 4;silent h";
        T.fault(houses, 6, houses.length());
    }

    private static void theLeftmost() {
        T.faultAt(NURSE + "house h at ", "100 from 24 to ?;nurse", 4);
        T.faultAt(PIECES + "follows ", "c c;piece a begins", 2);
        T.faultAt(PIECES, "?;follows c c", 1);
        T.faultAt(HOUSE + "mixed a;", "mixed ?", 3);
        T.faultAt("", "mixed a;odd", 6);
    }

    private static void aFaultLeavesTheTerrace() {
        TaleShares x = TestHelp.of(TestHelp.BASE);
        x.learn(0, 4);
        x.seed(7);
        x.image();
        T.refused(3, "a faulty text", x, TestHelp.tell(x, HOUSE + "silent h;follows a b;mixed b;odd"), 4);
        T.check(3, "the tape is empty", x.size(11), 0);
        int[] sizes = {1, 50, 5, 7, 3, 5, 1, 4, 7, 1, 1, 0};
        for (int what = 0; what < sizes.length; what++) {
            T.check(3, "size " + what, x.size(what), sizes[what]);
        }
        T.check(3, "TALES", x.tales(31), 3);
        T.check(3, "places", x.house(1, 0), 30);
        T.check(3, "KNOWS", x.house(0, 3), 19);
        T.check(3, "SLIPS", x.slips(), 1);
        T.due(3, "undo", x, x.undo(), true);
        T.check(3, "KNOWS", x.house(0, 3), 3);
        T.due(3, "a sound one", x, TestHelp.tell(x, PIECES + "follows a b"), 2);
        T.check(3, "houses", x.size(4), 0);
    }

    /** Each WORD of the form with one letter changed, left out or put behind it. */
    private static void wordsLetterByLetter() {
        String text = NURSE + "piece a begins;piece b plain;piece c king;piece d ends;follows a b;"
                + "house h at 5 from 3 to 4;heard h a;silent h;mixed a";
        T.sound(text, 4);
        java.util.regex.Matcher words = java.util.regex.Pattern.compile("[a-z]{2,}").matcher(text);
        while (words.find()) {
            String ahead = text.substring(0, words.start());
            String word = words.group();
            String behind = text.substring(words.end());
            for (int i = 0; i < word.length(); i++) {
                T.faultAt(ahead, word.substring(0, i) + "q" + word.substring(i + 1) + behind, 1);
                T.faultAt(ahead, word.substring(0, i) + word.substring(i + 1) + behind, 1);
            }
            T.faultAt(ahead, word + "q" + behind, 1);
        }
    }

    /** What stands on the tape behind the n bytes isn't read. */
    private static void cutWithinTokens() {
        TaleShares x = new TaleShares();
        TestHelp.feed(x, NURSE + "piece a king;house h at 123 from 3 to 4");
        T.refused(3, "cut", x, x.terrace((NURSE + "piece a king;house h at 12").length()), 4);
        T.check(4, "cut in a WHOLE", x.fault(), 1);
        TestHelp.feed(x, NURSE + "piece a kings");
        T.due(3, "cut in a WORD", x, x.terrace((NURSE + "piece a king").length()), 1);
        TestHelp.feed(x, NURSE + "piece a king;house h at 5 from 3 to 45");
        T.due(3, "cut in a WHOLE", x, x.terrace((NURSE + "piece a king;house h at 5 from 3 to 4")
                .length()), 1);
        T.check(3, "to", x.house(0, 2), 4);
    }

    private static void nothingIsLeftOfOtherTexts() {
        TaleShares x = new TaleShares();
        String full = HOUSE + "house g at 7 from 1 to 2;heard h a;heard g a;heard g b;silent h;silent g;"
                + "follows a b;follows b a;mixed a,b";
        for (int k = 0; k < 3; k++) {
            T.due(3, "a full one", x, TestHelp.tell(x, full), 2);
            T.refused(3, "a faulty one", x, TestHelp.tell(x, full + ";odd"), 4);
            T.due(3, "a plain one", x, TestHelp.tell(x, HOUSE + "house g at 7 from 1 to 2"), 2);
            for (int h = 0; h < 2; h++) {
                T.check(3, "KNOWS", x.house(h, 3), 0);
                T.check(3, "silent", x.house(h, 4), 0);
                T.check(3, "follows", x.piece(h, 1), 0);
            }
            T.check(3, "follows", x.size(3), 0);
            T.check(3, "heard", x.size(5), 0);
            T.check(3, "mixed", x.size(7), 0);
            T.check(3, "TALES", x.tales(3), 0);
        }
    }

    private static void whereAndFault() {
        TaleShares x = new TaleShares();
        TestHelp.tell(x, PIECES + "odd");
        int place = PIECES.length();
        T.check(5, "where", x.where(), place);
        x.fault();
        x.size(3);
        x.trouble();
        x.feed(0, 0, 0, 0, 0);
        T.check(5, "where behind calls that can't be refused", x.where(), place);
        T.refused(5, "known", x, x.known(), 1);
        T.check(5, "where behind another refusal", x.where(), -1);
        T.check(4, "fault", x.fault(), 1);
        T.refused(4, "terrace(99)", x, x.terrace(99), 2);
        T.check(4, "fault behind one refused by 2", x.fault(), 1);
        T.check(5, "where", x.where(), -1);
        x = TestHelp.of(PIECES + "mixed a");
        TestHelp.tell(x, "odd");
        T.check(5, "where", x.where(), 0);
        x.known();
        T.check(5, "where behind a call not refused", x.where(), -1);
        TestHelp.tell(x, PIECES + "mixed a");
        T.check(4, "fault behind a sound text", x.fault(), 0);
    }
}
