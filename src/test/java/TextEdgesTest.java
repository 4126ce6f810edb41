/** Terms I and promises 1 to 5, sentence by sentence, on both sides of each boundary. */
public final class TextEdgesTest {
    private static final TestHelp T = new TestHelp();
    private static final String NURSE = TestHelp.NURSE;
    private static final String PIECES = TestHelp.PIECES;
    private static final String HOUSE = TestHelp.HOUSE;
    private static final String[] HEADS = {"nurse", "piece", "follows", "house", "heard", "silent",
        "mixed"};

    public static void main(String[] args) {
        theTape();
        blanks();
        words();
        wholes();
        singleOnes();
        lines();
        nurse();
        piece();
        follows();
        house();
        heard();
        silentAndMixed();
        names();
        theFirstFault();
        form();
        untoldAndAgain();
        boundsManyLacks();
        aNewObject();
        feed();
        terrace();
        terraceRefused();
        faultAndWhere();
        T.end();
    }

    /** A sound text of PIECES and this last LINE, n bytes in all. */
    private static String filled(int n, String last) {
        return PIECES + " ".repeat(n - PIECES.length() - last.length()) + last;
    }

    /** The LINE so many times, # one letter further each time. */
    private static String lines(String line, char first, int many) {
        StringBuilder text = new StringBuilder();
        for (int i = 0; i < many; i++) {
            text.append(line.replace('#', (char) (first + i))).append(';');
        }
        return text.toString();
    }

    private static String withoutLast(String text) {
        return text.substring(0, text.length() - 1);
    }

    private static void theTape() {
        T.says(0, "I. THE TEXT of a TERRACE (THE TAPE has 900 bytes;");
        T.sound(filled(900, "piece z ends"), 3);
        T.sound(filled(899, "piece z ends"), 3);
        T.sound(filled(900, "house h at 5 from 3 to 4"), 2);
        T.sound(filled(900, "mixed a"), 2);
        T.fault(filled(900, "piece z ends?"), 1, 899);
        T.fault(filled(900, "piece z ends;"), 1, 900);
        T.sound(TestHelp.FULL, 8);
    }

    private static void blanks() {
        T.says(0, "blanks, 32, part TOKENS and mean nothing else;");
        T.sound("nurse kings 1 sleeps 5;piece a begins", 1);
        T.sound("   nurse   kings   1   sleeps   5   ;   piece   a   begins   ", 1);
        T.sound("nurse kings1sleeps5;piece a begins", 1);
        T.sound(HOUSE + "house g at5from3to4;mixed a , b,a ,b, a", 2);
        T.faultAt("", "nursekings 1 sleeps 5", 1);
        T.faultAt("", "nur se kings 1 sleeps 5", 1);
        T.faultAt("nurse kings 1 ", "0 sleeps 5", 1);
        for (int sign : new int[] {0, 9, 10, 13, 31, 33, 127, 128, 160, 255}) {
            T.faultAt(NURSE + "piece a", (char) sign + "begins", 1);
            T.faultAt(NURSE + "piece a begins", "" + (char) sign, 1);
        }
    }

    private static void words() {
        T.says(0, "TOKENS: WORDS of 1 to 8 small letters that stand together,");
        T.sound(NURSE + "piece a begins;piece z begins", 2);
        T.sound(NURSE + "piece abcdefgh begins;piece zzzzzzzz ends", 2);
        T.sound(NURSE + "piece abcdefgh begins;piece abcdefgi ends;piece bbcdefgh king", 3);
        T.sound(NURSE + "piece abcdefgh begins;piece abcdefg ends;piece bcdefgh king", 3);
        for (char letter = 'a'; letter <= 'z'; letter++) {
            StringBuilder text = new StringBuilder(NURSE);
            for (int many = 1; many <= 8; many++) {
                text.append("piece ").append(("" + letter).repeat(many)).append(" king;");
            }
            T.sound(withoutLast(text.toString()), 8);
            longNames("" + letter);
            if (letter != 'a') {
                // Two letters each: NAMES counted too closely as numbers would be one.
                T.sound(NURSE + "piece a" + letter + " begins;piece ba ends;mixed ba", 2);
                T.faultAt(NURSE + "piece a" + letter + " begins;mixed ", "ba", 2);
            }
        }
        T.faultAt(NURSE + "piece ", "abcdefghi begins", 1);
        T.faultAt(NURSE + "piece ", "abcdefghabcdefgh begins", 1);
        T.faultAt(NURSE + "piece abcdefgh ", "i begins", 1);
        for (char sign : "`{@[AZ_".toCharArray()) {
            T.faultAt(NURSE + "piece a", sign + " begins", 1);
            T.faultAt(NURSE + "piece ", sign + "a begins", 1);
        }
    }

    /** NAMES of eight letters are told, used and told again by all their letters. */
    private static void longNames(String letter) {
        String name = letter.repeat(8);
        String other = letter.equals("k") ? "l" : "k";
        String pieces = NURSE + "piece " + name + " begins;piece b ends;";
        T.sound(pieces + "follows " + name + " b;follows b " + name + ";mixed " + name, 2);
        T.faultAt(pieces + "piece ", name + " ends", 3);
        T.faultAt(pieces + "mixed ", other + name.substring(1), 2);
        T.faultAt(pieces + "mixed ", name.substring(1) + other, 2);
        String houses = PIECES + "house " + name + " at 0 from 0 to 0;";
        T.sound(houses + "heard " + name + " a;silent " + name, 2);
        T.faultAt(houses + "house ", name + " at 0 from 0 to 0", 3);
        T.faultAt(houses + "silent ", other + name.substring(1), 2);
        T.faultAt(houses + "silent ", name.substring(1) + other, 2);
    }

    private static void wholes() {
        T.says(0, "WHOLES of 1 to 3 digits that do,");
        for (String four : new String[] {"4", "04", "004"}) {
            TaleShares x = TestHelp.of("nurse kings " + four + " sleeps 100;piece a begins");
            T.check(50, "kings " + four, x.size(0), 4);
            T.check(50, "sleeps", x.size(1), 100);
        }
        TaleShares x = TestHelp.of("nurse kings 000 sleeps 019;piece a begins");
        T.check(50, "kings 000", x.size(0), 0);
        T.check(50, "sleeps 019", x.size(1), 19);
        T.faultAt("nurse kings ", "0004 sleeps 5", 1);
        T.faultAt("nurse kings 4 sleeps ", "0100", 1);
        T.faultAt("nurse kings 4 sleeps ", "999", 4);
        T.faultAt("nurse kings 4 sleeps ", "1000", 1);
        T.faultAt("nurse kings 4 sleeps ", "4294967296", 1);
        T.faultAt("nurse kings ", "/ sleeps 5", 1);
        T.faultAt("nurse kings ", ": sleeps 5", 1);
        T.faultAt("nurse kings 1", "/ sleeps 5", 1);
        T.faultAt("nurse kings 1", ": sleeps 5", 1);
    }

    private static void singleOnes() {
        T.says(0, "single ones of ;,):");
        T.sound(HOUSE + "mixed a,b;silent h", 2);
        T.faultAt(HOUSE + "mixed a,", ",b", 1);
        T.faultAt(HOUSE + "silent h;", ";mixed a", 1);
        for (char sign : ".:+-<=(){}".toCharArray()) {
            T.faultAt(HOUSE + "mixed a", sign + "b", 1);
        }
    }

    private static void lines() {
        T.says(0, "LINE {; LINE}. LINE, one of:");
        T.fault("", 1, 0);
        T.fault("nurse kings 1 sleeps 5", 6, 22);
        T.sound("nurse kings 1 sleeps 5;piece a begins", 1);
        T.sound("nurse kings 1 sleeps 5;piece a begins;mixed a", 1);
        T.fault(NURSE + "piece a begins;", 1, NURSE.length() + 15);
        T.faultAt("", ";" + NURSE + "piece a begins", 1);
        T.faultAt(NURSE, ";piece a begins", 1);
        T.faultAt(NURSE + "piece a begins ", "piece b ends", 1);
        T.faultAt(NURSE + "piece a begins", ",piece b ends", 1);
    }

    private static void nurse() {
        T.says(0, "nurse kings WHOLE sleeps WHOLE (0 .. 4; 0 .. 100 in a hundred),");
        for (int kings = 0; kings <= 5; kings++) {
            for (int sleeps : new int[] {0, 1, 99, 100}) {
                String text = "nurse kings " + kings + " sleeps " + sleeps + ";piece a begins";
                if (kings > 4) {
                    T.fault(text, 4, 12);
                    continue;
                }
                T.sound(text, 1);
                TaleShares x = TestHelp.of(text);
                T.check(50, "kings", x.size(0), kings);
                T.check(50, "sleeps", x.size(1), sleeps);
            }
        }
        T.faultAt("nurse kings 0 sleeps ", "101;piece a begins", 4);
        T.says(0, "ahead of all others");
        T.sound(NURSE + "house h at 0 from 0 to 0;piece a begins", 1);
        T.faultAt("", "piece a begins;nurse kings 1 sleeps 5", 6);
        T.faultAt("", "house h at 0 from 0 to 0;nurse kings 1 sleeps 5;piece a begins", 6);
    }

    private static void piece() {
        T.says(0, "piece NAME KIND (KIND: begins, plain, king, or ends;");
        TaleShares x = TestHelp.of(NURSE + "piece a begins;piece b plain;piece c king;piece d ends");
        for (int p = 0; p < 4; p++) {
            T.due(6, "KIND", x, x.piece(p, 0), p);
        }
        for (String word : new String[] {"begin", "kings", "end", "plains", "sleeps", "a", "piece"}) {
            T.faultAt(NURSE + "piece a ", word, 1);
        }
        T.says(0, "up to 8),");
        T.sound(withoutLast(NURSE + lines("piece # king", 'a', 7)), 7);
        T.sound(withoutLast(NURSE + lines("piece # king", 'a', 8)), 8);
        T.faultAt(NURSE + lines("piece # king", 'a', 8), "piece z king", 5);
        T.faultAt(NURSE + lines("piece # king", 'a', 8), "piece a king", 5);
    }

    /** LINES follows of unlike pieces a to h, as many. */
    private static String follows(int many) {
        StringBuilder text = new StringBuilder();
        for (int k = 0; k < many; k++) {
            int first = k / 7;
            int second = (first + 1 + k % 7) % 8;
            text.append("follows ").append((char) ('a' + first)).append(' ');
            text.append((char) ('a' + second)).append(';');
        }
        return text.toString();
    }

    private static void follows() {
        T.says(0, "or follows PIECE PIECE (the second may follow the first; like ones not;");
        TaleShares x = TestHelp.of(PIECES + "follows a b");
        T.due(6, "b may follow a", x, x.piece(0, 1), 2);
        T.due(6, "a may not follow b", x, x.piece(1, 1), 0);
        T.faultAt(PIECES + "follows a ", "a", 3);
        T.faultAt(PIECES + "follows b ", "b", 3);
        T.says(0, "each two in that order once;");
        T.sound(PIECES + "follows a b;follows b a", 2);
        T.faultAt(PIECES + "follows a b;follows b a;follows a ", "b", 3);
        T.faultAt(PIECES + "follows a b;follows b a;follows b ", "a", 3);
        T.says(0, "up to 14)");
        String eight = NURSE + lines("piece # king", 'a', 8);
        T.sound(withoutLast(eight + follows(13)), 8);
        T.sound(withoutLast(eight + follows(14)), 8);
        T.faultAt(eight + follows(14), "follows c d", 5);
        T.faultAt(eight + follows(14), "follows a b", 5);
    }

    private static void house() {
        T.says(0, "house NAME at WHOLE from WHOLE to WHOLE (a place, 0 .. 99;");
        for (int place : new int[] {0, 1, 98, 99}) {
            TaleShares x = TestHelp.of(PIECES + "house h at " + place + " from 0 to 0");
            T.due(7, "place", x, x.house(0, 0), place);
        }
        T.faultAt(PIECES + "house h at ", "100 from 0 to 0", 4);
        T.says(0, "hours, 0 .. 23, the second no less;");
        int[][] right = {{0, 0}, {0, 23}, {23, 23}, {22, 23}, {7, 7}};
        for (int[] hours : right) {
            TaleShares x = TestHelp.of(PIECES + "house h at 0 from " + hours[0] + " to " + hours[1]);
            T.due(7, "from", x, x.house(0, 1), hours[0]);
            T.due(7, "to", x, x.house(0, 2), hours[1]);
        }
        T.faultAt(PIECES + "house h at 0 from ", "24 to 24", 4);
        T.faultAt(PIECES + "house h at 0 from 0 to ", "24", 4);
        T.faultAt(PIECES + "house h at 0 from 23 to ", "24", 4);
        T.faultAt(PIECES + "house h at 0 from 7 to ", "6", 4);
        T.faultAt(PIECES + "house h at 0 from 1 to ", "0", 4);
        T.says(0, "up to 5),");
        T.sound(withoutLast(PIECES + lines("house # at 0 from 0 to 0", 'p', 4)), 2);
        T.sound(withoutLast(PIECES + lines("house # at 0 from 0 to 0", 'p', 5)), 2);
        T.faultAt(PIECES + lines("house # at 0 from 0 to 0", 'p', 5), "house z at 0 from 0 to 0", 5);
        T.faultAt(PIECES + lines("house # at 0 from 0 to 0", 'p', 5), "house p at 0 from 0 to 0", 5);
    }

    private static void heard() {
        T.says(0, "or heard HOUSE PIECE (each two once;");
        String two = HOUSE + "house g at 0 from 0 to 0;";
        T.sound(two + "heard h a;heard h b;heard g a;heard g b", 2);
        T.faultAt(two + "heard h a;heard h b;heard g a;heard h ", "a", 3);
        T.faultAt(two + "heard h a;heard g b;heard g ", "b", 3);
        T.says(0, "up to 14)");
        String rooms = NURSE + lines("piece # king", 'a', 8) + lines("house # at 0 from 0 to 0", 'p', 2);
        String seven = lines("heard p #", 'a', 7);
        T.sound(withoutLast(rooms + seven + lines("heard q #", 'a', 6)), 8);
        T.sound(withoutLast(rooms + seven + lines("heard q #", 'a', 7)), 8);
        T.faultAt(rooms + seven + lines("heard q #", 'a', 7), "heard q h", 5);
        T.faultAt(rooms + seven + lines("heard q #", 'a', 7), "heard q a", 5);
    }

    private static void silentAndMixed() {
        T.says(0, "silent HOUSE (each once)");
        String five = PIECES + lines("house # at 0 from 0 to 0", 'p', 5);
        T.sound(withoutLast(five + lines("silent #", 'p', 5)), 2);
        T.faultAt(five + lines("silent #", 'p', 5) + "silent ", "t", 3);
        T.faultAt(five + "silent p;silent q;silent ", "p", 3);
        T.says(0, "mixed PIECE {, PIECE} (1 to 6, like ones too; once)");
        String row = "a";
        for (int many = 1; many <= 6; many++) {
            TaleShares x = TestHelp.of(PIECES + "mixed " + row);
            T.check(50, "mixed " + row, x.size(7), many);
            row += ",a";
        }
        T.fault(HOUSE + "mixed", 1, HOUSE.length() + 5);
        T.faultAt(HOUSE + "mixed ", ";silent h", 1);
        T.faultAt(HOUSE + "mixed a,a,a,a,a,a,", "a", 5);
        T.sound(HOUSE + "mixed a,b,a,b,b,a;silent h", 2);
        T.faultAt(HOUSE + "mixed a;silent h;", "mixed b", 3);
    }

    private static void names() {
        T.says(0, "NAMES are WORDS but nurse, piece, follows, house, heard, silent, mixed;");
        for (String head : HEADS) {
            T.faultAt(NURSE + "piece ", head + " begins", 1);
            T.faultAt(PIECES + "house ", head + " at 0 from 0 to 0", 1);
            T.sound(NURSE + "piece " + head + "s begins;house x" + head.substring(1)
                    + " at 0 from 0 to 0;mixed " + head + "s", 1);
            T.faultAt(NURSE + "piece a ", head, 1);
            T.faultAt(HOUSE + "follows ", head + " a", 1);
            T.faultAt(HOUSE + "follows a ", head, 1);
            T.faultAt(HOUSE + "heard ", head + " a", 1);
            T.faultAt(HOUSE + "heard h ", head, 1);
            T.faultAt(HOUSE + "silent ", head, 1);
            T.faultAt(HOUSE + "mixed ", head, 1);
        }
        T.faultAt(NURSE + "piece ", "5 begins", 1);
        T.sound(NURSE + "piece kings begins;piece sleeps plain;piece begins king;piece plain ends;"
                + "piece king king;piece ends ends;house at at 1 from 2 to 3;house from at 1 from 2 to 3;"
                + "house to at 1 from 2 to 3;heard at kings;silent to;follows begins plain;mixed ends", 6);
        T.says(0, "each told once, ahead of its use.");
        T.sound(PIECES + "follows a b", 2);
        T.faultAt(NURSE + "piece b ends;follows ", "a b;piece a begins", 2);
        T.faultAt(PIECES + "heard ", "h a;house h at 0 from 0 to 0", 2);
        T.faultAt(PIECES + "piece ", "a begins", 3);
        T.faultAt(HOUSE + "house ", "h at 0 from 0 to 0", 3);
    }

    private static void theFirstFault() {
        T.says(0, "FAULTS, the first that is met from the left, of one place the least number:");
        T.faultAt(NURSE + "piece a begins;piece ", "a ?", 3);
        T.faultAt(NURSE + "piece a ", "?;piece a begins", 1);
        T.faultAt(HOUSE + "follows ", "g a;follows a a;mixed a;mixed a", 2);
        T.faultAt(HOUSE + "follows a ", "a;follows g a", 3);
        T.faultAt(HOUSE + "house g at ", "100 from 24 to 0", 4);
        T.faultAt(HOUSE + "heard h a;heard h ", "a;nurse;?", 3);
        // At the seventh of a mixed row: 1 and 5, 2 and 5, 5 alone; at the end: 1 and 6.
        T.faultAt(HOUSE + "mixed a,a,a,a,a,a,", "mixed", 1);
        T.faultAt(HOUSE + "mixed a,a,a,a,a,a,", "g", 2);
        T.faultAt(HOUSE + "mixed a,a,a,a,a,a,", "b", 5);
        T.fault(NURSE, 1, NURSE.length());
        T.fault(withoutLast(NURSE), 6, NURSE.length() - 1);
    }

    private static void form() {
        T.says(0, "1 FORM: the first byte that begins no TOKEN,");
        T.faultAt(NURSE + "piece a ", "?begins", 1);
        T.faultAt(NURSE + "piece a begins  ", "? ?", 1);
        T.faultAt("", "\u0000", 1);
        T.faultAt("  ", "\u00ff", 1);
        T.says(0, "or TOKEN with which no TERRACE goes on");
        String text = "nurse kings 1 sleeps 5 ; piece a begins ; piece b ends ; follows a b ; house h at 5"
                + " from 3 to 4 ; heard h a ; silent h ; mixed a , a";
        T.sound(text, 2);
        String names = " a b h ";
        int at = 0;
        for (String token : text.split(" ")) {
            boolean name = names.contains(" " + token + " ");
            boolean whole = Character.isDigit(token.charAt(0));
            String rest = text.substring(at + token.length());
            for (String other : new String[] {";", ",", "7", "qqq", "nurse"}) {
                // A ";" may stand for the "," of the mixed row: the FAULT is the next TOKEN then.
                boolean fits = token.equals(other) || whole && other.equals("7")
                        || name && other.equals("qqq") || token.equals(",") && other.equals(";")
                        || other.equals("nurse") && isHead(token);
                if (!fits) {
                    T.faultAt(text.substring(0, at), other + rest, 1);
                }
            }
            at += token.length() + 1;
        }
        T.says(0, "(the end: its place).");
        for (String part : new String[] {"", "nurse", "nurse kings", "nurse kings 1", "nurse kings 1 sleeps",
            NURSE, NURSE + "piece", NURSE + "piece a", PIECES, PIECES + "follows", PIECES + "follows a",
            PIECES + "house", PIECES + "house h", PIECES + "house h at", PIECES + "house h at 5",
            PIECES + "house h at 5 from", PIECES + "house h at 5 from 3", PIECES + "house h at 5 from 3 to",
            HOUSE + "heard", HOUSE + "heard h", HOUSE + "silent", HOUSE + "mixed", HOUSE + "mixed a,"}) {
            T.fault(part, 1, part.length());
            T.fault(part + "   ", 1, part.length() + 3);
        }
    }

    private static boolean isHead(String word) {
        return java.util.Arrays.asList(HEADS).contains(word);
    }

    private static void untoldAndAgain() {
        T.says(0, "2 a NAME that isn't told, or is of another sort than must stand there; at it.");
        T.sound(HOUSE + "follows a b;heard h a;silent h;mixed b", 2);
        for (String name : new String[] {"g", "h"}) {
            T.faultAt(HOUSE + "follows ", name + " b", 2);
            T.faultAt(HOUSE + "follows a ", name, 2);
            T.faultAt(HOUSE + "heard h ", name, 2);
            T.faultAt(HOUSE + "mixed ", name, 2);
            T.faultAt(HOUSE + "mixed a,b,", name, 2);
        }
        for (String name : new String[] {"g", "a"}) {
            T.faultAt(HOUSE + "heard ", name + " a", 2);
            T.faultAt(HOUSE + "silent ", name, 2);
        }
        T.says(0, "3 a NAME told again; at it;");
        for (String name : new String[] {"a", "h"}) {
            T.faultAt(HOUSE + "piece ", name + " ends", 3);
            T.faultAt(HOUSE + "house ", name + " at 5 from 3 to 4", 3);
        }
        T.sound(HOUSE + "piece aa ends;house hh at 5 from 3 to 4", 3);
        T.says(0, "a second PIECE that is the first, or that follows the first already; at it;");
        T.faultAt(HOUSE + "follows b ", "b", 3);
        T.faultAt(HOUSE + "follows a b;follows a ", "b", 3);
        T.sound(HOUSE + "follows a b;follows b a", 2);
        T.says(0, "a PIECE that this HOUSE heard already; at it;");
        T.faultAt(HOUSE + "heard h a;heard h ", "a", 3);
        T.sound(HOUSE + "house g at 0 from 0 to 0;heard h a;heard g a;heard h b", 2);
        T.says(0, "a HOUSE that is silent already; at it;");
        T.faultAt(HOUSE + "silent h;silent ", "h", 3);
        T.sound(HOUSE + "house g at 0 from 0 to 0;silent h;silent g", 2);
        T.says(0, "a second nurse, a second mixed: at that WORD.");
        T.faultAt(NURSE, "nurse kings 1 sleeps 5;piece a begins", 3);
        T.faultAt(HOUSE, "nurse", 3);
        T.faultAt(HOUSE, "nurse ?", 3);
        T.faultAt(HOUSE + "mixed a;", "mixed a", 3);
        T.faultAt(HOUSE + "mixed a;", "mixed g", 3);
        T.sound(HOUSE + "mixed a", 2);
    }

    private static void boundsManyLacks() {
        T.says(0, "4 a WHOLE out of bounds; at it.");
        T.faultAt("nurse kings ", "5", 4);
        T.faultAt("nurse kings   4   sleeps   ", "101", 4);
        T.faultAt(PIECES + "house h at   ", "100", 4);
        T.faultAt(PIECES + "house h at 5 from   ", "24", 4);
        T.faultAt(PIECES + "house h at 5 from 9 to   ", "8", 4);
        T.sound(PIECES + "house h at 99 from 23 to 23", 2);
        T.says(0, "5 MANY: a LINE more of its sort than there is room for, at its first WORD;");
        String full = TestHelp.FULL;
        T.sound(full, 8);
        for (String line : new String[] {"piece x ends", "piece", "follows w p", "follows", "heard e p",
            "heard", "house f at 0 from 0 to 0", "house"}) {
            T.faultAt(full + ";", line, 5);
        }
        T.says(0, "a PIECE of mixed more than 6: at it.");
        T.sound(HOUSE + "mixed a,b,a,b,a,b", 2);
        T.faultAt(HOUSE + "mixed a,b,a,b,a,b,", "a", 5);
        T.faultAt(HOUSE + "mixed a,b,a,b,a,b , ", "b,g", 5);
        T.fault(HOUSE + "mixed a,b,a,b,a,b,", 1, HOUSE.length() + 18);
        T.says(0, "6 LACKS: any LINE ahead of the nurse; at its WORD;");
        for (String head : HEADS) {
            if (!head.equals("nurse")) {
                T.faultAt("  ", head + " a", 6);
                T.faultAt("", head, 6);
            }
        }
        T.faultAt("", "kings", 1);
        T.says(0, "at the end: no piece.");
        T.fault("nurse kings 1 sleeps 5", 6, 22);
        T.fault("nurse kings 1 sleeps 5  ", 6, 24);
        T.fault(NURSE + "house h at 0 from 0 to 0;silent h", 6, NURSE.length() + 33);
        T.sound(NURSE + "house h at 0 from 0 to 0;silent h;piece a ends", 1);
    }

    private static void aNewObject() {
        T.says(1, "No TERRACE.");
        TaleShares x = new TaleShares();
        T.check(1, "trouble", x.trouble(), 0);
        T.check(1, "fault", x.fault(), 0);
        T.check(1, "where", x.where(), -1);
        for (int what = 0; what <= 11; what++) {
            T.check(1, "size " + what, x.size(what), 0);
        }
        T.refused(1, "known", x, x.known(), 1);
        T.due(1, "a text", x, TestHelp.tell(x, TestHelp.BASE), 5);
        T.due(1, "known", x, x.known(), 31);
        x = new TaleShares();
        T.refused(1, "known of another new one", x, x.known(), 1);
    }

    private static void feed() {
        T.says(2, "Twenty bytes come behind THE TAPE, of each number the highest first: how many it has;");
        TaleShares x = new TaleShares();
        T.check(2, "feed", x.feed(0x6e757273, 0x65206b69, 0x6e677320, 0x3120736c, 0x65657073), 20);
        T.check(2, "feed", x.feed(0x20353b70, 0x69656365, 0x20612062, 0x6567696e, 0x73202020), 40);
        T.due(2, "nurse kings 1 sleeps 5;piece a begins", x, x.terrace(40), 1);
        T.check(2, "sleeps", x.size(1), 5);
        // Bytes of 128 and more, behind what was read and at it.
        T.check(2, "feed", x.feed(-1, -1, -1, -1, 0x80ff7f00), 20);
        T.refused(2, "no TOKEN", x, x.terrace(20), 4);
        T.says(2, "NONE, and none comes, if there would be more than 900.");
        x = new TaleShares();
        for (int k = 1; k <= 44; k++) {
            T.check(2, "feed", x.feed(0x20202020, 0x20202020, 0x20202020, 0x20202020, 0x20202020), 20 * k);
        }
        T.check(2, "the last", x.feed(0x20202020, 0x20202020, 0x20202020, 0x20202020, 0x2020203f), 900);
        T.check(2, "one more", x.feed(0x3f3f3f3f, 0x3f3f3f3f, 0x3f3f3f3f, 0x3f3f3f3f, 0x3f3f3f3f), -1);
        T.check(2, "bytes", x.size(11), 900);
        T.refused(2, "none came", x, x.terrace(900), 4);
        T.check(2, "none came", x.where(), 899);
        T.check(2, "there is room", x.feed(0, 0, 0, 0, 0), 20);
    }

    private static void terrace() {
        T.says(3, "The first n bytes of THE TAPE (it is empty then) are the TERRACE from now on");
        TaleShares x = new TaleShares();
        TestHelp.feed(x, PIECES + "piece c ends;odd");
        T.due(3, "cut", x, x.terrace(PIECES.length() + 12), 3);
        T.check(3, "it is empty then", x.size(11), 0);
        T.refused(3, "it is empty then", x, x.terrace(1), 2);
        T.due(3, "another", x, TestHelp.tell(x, NURSE + "piece q king"), 1);
        T.due(3, "from now on", x, x.piece(0, 0), 2);
        TestHelp.feed(x, PIECES + "house h at 5 from 3 to 45");
        T.due(3, "cut in a WHOLE", x, x.terrace(PIECES.length() + 24), 2);
        T.due(3, "to", x, x.house(0, 2), 4);
        TestHelp.feed(x, PIECES + "mixed aa");
        T.due(3, "cut in a WORD", x, x.terrace(PIECES.length() + 7), 2);
        nothingOfAnother();
        T.says(3, "(houses KNOW what they heard, SEED 0; nothing to undo, no IMAGES):");
        T.due(3, "a text", x, TestHelp.tell(x, TestHelp.BASE), 5);
        x.seed(65536);
        x.learn(0, 4);
        x.image();
        T.due(3, "the same again", x, TestHelp.tell(x, TestHelp.BASE), 5);
        T.due(3, "house 0", x, x.house(0, 3), 3);
        T.due(3, "house 1", x, x.house(1, 3), 20);
        T.due(3, "house 2", x, x.house(2, 3), 8);
        T.check(3, "SEED", x.size(8), 0);
        T.check(3, "nothing to undo", x.size(9), 0);
        T.refused(3, "nothing to undo", x, x.undo(), 6);
        T.check(3, "no IMAGES", x.size(10), 0);
        T.refused(3, "no IMAGES", x, x.back(0), 1);
        T.due(3, "the first IMAGE again", x, x.image(), 0);
        T.says(3, "how many pieces.");
        for (int many = 1; many <= 8; many++) {
            String text = withoutLast(NURSE + lines("piece # king", 'a', many));
            T.due(3, text, x, TestHelp.tell(x, text), many);
        }
    }

    /** What stood ahead of a TERRACE, more of all, shows in no answer of it. */
    private static void nothingOfAnother() {
        TaleShares x = TestHelp.of(TestHelp.FULL.replaceAll("silent .;", ""));
        String few = "nurse kings 0 sleeps 0;piece a begins;piece b ends;piece c plain;piece d plain;"
                + "piece e plain;piece f plain;piece g plain;piece h ends";
        T.due(3, "no follows", x, TestHelp.tell(x, few + ";mixed a,b"), 8);
        T.due(3, "tales", x, x.tales(255), 0);
        T.due(3, "longest", x, x.longest(255), -2);
        T.due(3, "used", x, x.used(255), 0);
        T.due(3, "isTale(1234568)", x, x.isTale(1234568), 0);
        T.due(3, "slips", x, x.slips(), -2);
        T.due(3, "meanings", x, x.meanings(), 0);
        T.refused(3, "walks", x, x.walks(), 6);
        T.due(3, "one TALE", x, TestHelp.tell(x, few + ";follows a b;house p at 1 from 1 to 1;"
                + "house q at 9 from 2 to 2;heard p a;mixed a"), 8);
        T.due(3, "tales", x, x.tales(255), 1);
        T.due(3, "longest", x, x.longest(255), 2);
        T.due(3, "used", x, x.used(255), 3);
        T.due(3, "needed", x, x.needed(255), 3);
        T.due(3, "isTale(1234568)", x, x.isTale(1234568), 0);
        T.due(3, "isTale(12)", x, x.isTale(12), 1);
        T.due(3, "meanings", x, x.meanings(), 1);
        T.due(3, "orders", x, x.orders(), 1);
        T.due(3, "walks", x, x.walks(), 8);
        T.due(3, "soonest", x, x.soonest(), 1);
        T.due(3, "meets", x, x.meets(0, 0), 1);
        T.due(3, "no timetable", x, TestHelp.tell(x, few + ";house p at 1 from 1 to 1;"
                + "house q at 9 from 1 to 1;mixed a"), 8);
        T.due(3, "orders", x, x.orders(), 0);
        T.due(3, "walks", x, x.walks(), -2);
        T.due(3, "meanings", x, x.meanings(), 0);
        x = TestHelp.of(few);
        T.due(3, "two houses behind none", x, TestHelp.tell(x, few + ";house p at 1 from 1 to 1;"
                + "house q at 9 from 2 to 2;heard p a"), 8);
        T.due(3, "soonest", x, x.soonest(), 1);
        T.due(3, "meets", x, x.meets(0, 0), 1);
        T.due(3, "meets", x, x.meets(0, 1), 0);
    }

    private static void terraceRefused() {
        T.says(3, "NONE: 2 (THE TAPE stays);");
        TaleShares x = TestHelp.of(TestHelp.BASE);
        T.refused(3, "nothing on the tape", x, x.terrace(1), 2);
        TestHelp.feed(x, "nurse kings 1 sleeps 5;piece a begins   ");
        for (int n : new int[] {-1, 41, 900, 901, Integer.MIN_VALUE, Integer.MAX_VALUE}) {
            T.refused(3, "terrace(" + n + ")", x, x.terrace(n), 2);
            T.check(3, "THE TAPE stays", x.size(11), 40);
            T.check(3, "and the TERRACE", x.size(2), 5);
        }
        T.due(3, "terrace(40)", x, x.terrace(40), 1);
        T.refused(3, "terrace(0)", x, x.terrace(0), 4);
        T.says(3, "4 (the TERRACE stays).");
        x = TestHelp.of(TestHelp.BASE);
        x.learn(0, 4);
        x.seed(7);
        x.image();
        T.refused(3, "a FAULT at its end", x, TestHelp.tell(x, TestHelp.FULL + ";"), 4);
        int[] sizes = {1, 50, 5, 7, 3, 5, 1, 4, 7, 1, 1, 0};
        for (int what = 0; what < sizes.length; what++) {
            T.check(3, "size " + what, x.size(what), sizes[what]);
        }
        T.due(3, "TALES", x, x.tales(31), 3);
        T.due(3, "KNOWS", x, x.house(0, 3), 19);
        T.due(3, "walks", x, x.walks(), 20);
        T.due(3, "slips", x, x.slips(), 1);
        T.due(3, "soonest", x, x.soonest(), -2);
        T.due(3, "undo", x, x.undo(), true);
        T.due(3, "without a FAULT it goes", x, TestHelp.tell(x, TestHelp.FULL), 8);
        x = new TaleShares();
        T.refused(3, "a FAULT", x, TestHelp.tell(x, TestHelp.FULL + ";"), 4);
        T.refused(3, "there is no TERRACE still", x, x.known(), 1);
        T.check(3, "no pieces", x.size(2), 0);
    }

    private static void faultAndWhere() {
        T.says(4, "The FAULT of the latest terrace() not refused by 2;");
        TaleShares x = new TaleShares();
        TestHelp.tell(x, "nurse kings 5");
        T.check(4, "4", x.fault(), 4);
        T.refused(4, "by 2", x, x.terrace(1), 2);
        T.check(4, "4 still", x.fault(), 4);
        x.known();
        T.check(4, "4 still", x.fault(), 4);
        TestHelp.tell(x, NURSE + "nurse");
        T.check(4, "3", x.fault(), 3);
        T.says(4, "0 without one.");
        T.check(4, "a new object", new TaleShares().fault(), 0);
        TestHelp.tell(x, TestHelp.BASE);
        T.check(4, "a sound text", x.fault(), 0);
        x.terrace(-1);
        T.check(4, "one refused by 2", x.fault(), 0);
        T.says(5, "Its place, if the latest call that may be refused was by 4;");
        x = new TaleShares();
        TestHelp.tell(x, NURSE + "nurse");
        T.check(5, "where", x.where(), NURSE.length());
        x.fault();
        x.trouble();
        x.size(0);
        x.feed(0, 0, 0, 0, 0);
        T.check(5, "behind calls that can't be refused", x.where(), NURSE.length());
        T.check(5, "again", x.where(), NURSE.length());
        T.says(5, "NONE else.");
        T.check(5, "a new object", new TaleShares().where(), -1);
        x.terrace(99);
        T.check(5, "refused by 2", x.where(), -1);
        TestHelp.tell(x, "?");
        T.check(5, "by 4", x.where(), 0);
        x.undo();
        T.check(5, "refused by 6", x.where(), -1);
        TestHelp.tell(x, TestHelp.BASE);
        T.check(5, "a sound text", x.where(), -1);
        TestHelp.tell(x, "?");
        x.known();
        T.check(5, "a call that wasn't refused", x.where(), -1);
        TestHelp.tell(x, "?");
        T.check(5, "by 4", x.where(), 0);
    }
}
