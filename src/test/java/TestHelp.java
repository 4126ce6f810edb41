import java.nio.charset.StandardCharsets;

/** What the tests share: terraces by texts, and counting answers that are not due. */
final class TestHelp {
    static final String FIVE_PIECES = "piece a begins;piece b plain;piece c king;piece d king;"
            + "piece e ends;follows a b;follows a c;follows b c;follows b e;follows c e;"
            + "follows c d;follows d e";
    static final String THREE_HOUSES = "house x at 10 from 1 to 2;house y at 30 from 1 to 3;"
            + "house z at 12 from 2 to 2;heard x a;heard x b;heard y e;heard y c;heard z d;silent z";
    static final String BASE = "nurse kings 1 sleeps 50;" + FIVE_PIECES + ";" + THREE_HOUSES
            + ";mixed a,c,b,e";
    static final String NURSE = "nurse kings 1 sleeps 5;";
    static final String PIECES = NURSE + "piece a begins;piece b ends;";
    static final String HOUSE = PIECES + "house h at 5 from 3 to 4;";
    /** As much of each sort as there is room for: pieces p to w, houses a to e. */
    static final String FULL = "nurse kings 4 sleeps 100;piece p begins;piece q plain;"
            + "piece r plain;piece s king;piece t king;piece u king;piece v king;piece w ends;"
            + "follows p q;follows p r;follows q r;follows q s;follows q t;follows r s;"
            + "follows r t;follows s t;follows s u;follows s v;follows t u;follows t v;"
            + "follows u w;follows v w;house a at 0 from 0 to 23;house b at 99 from 23 to 23;"
            + "house c at 1 from 0 to 0;house d at 98 from 1 to 22;house e at 50 from 2 to 3;"
            + "heard a p;heard a q;heard a r;heard a s;heard a t;heard a u;heard a v;heard b w;"
            + "heard b v;heard c p;heard c q;heard c u;heard c w;heard d t;silent a;silent b;"
            + "silent c;silent d;silent e;mixed p,w,w,p,q,w";

    private int asked;
    private int wrong;
    private String sentence = "";
    private int askedByIt;

    static void feed(TaleShares x, String text) {
        byte[] bytes = text.getBytes(StandardCharsets.ISO_8859_1);
        for (int at = 0; at < bytes.length; at += 20) {
            int[] fours = new int[5];
            for (int i = 0; i < 20; i++) {
                int sign = at + i < bytes.length ? bytes[at + i] & 255 : 32;
                fours[i / 4] = fours[i / 4] << 8 | sign;
            }
            x.feed(fours[0], fours[1], fours[2], fours[3], fours[4]);
        }
    }

    static int tell(TaleShares x, String text) {
        feed(x, text);
        return x.terrace(text.length());
    }

    static TaleShares of(String text) {
        TaleShares x = new TaleShares();
        if (tell(x, text) == TaleShares.NONE) {
            throw new IllegalArgumentException("fault " + x.fault() + " at " + x.where() + ": " + text);
        }
        return x;
    }

    /**
     * The answers behind this are due by a sentence of the document (promise 0: of its terms);
     * QuotesTest finds these calls in the sources and looks for sentences without one.
     */
    void says(int promise, String words) {
        endSentence();
        sentence = "by \"" + words + "\": ";
        askedByIt = 0;
    }

    private void endSentence() {
        if (!sentence.isEmpty() && askedByIt < 2) {
            wrong++;
            System.out.println(sentence + "it has two sides, " + askedByIt + " answers were asked");
        }
    }

    /** A text without a FAULT. */
    void sound(String text, int pieces) {
        TaleShares x = new TaleShares();
        due(3, text, x, tell(x, text), pieces);
        check(4, text + " fault", x.fault(), 0);
        check(5, text + " where", x.where(), -1);
    }

    void fault(String text, int number, int place) {
        TaleShares x = new TaleShares();
        refused(3, text, x, tell(x, text), 4);
        check(4, text + " fault", x.fault(), number);
        check(5, text + " where", x.where(), place);
    }

    /** The text is right as far as this part, which stands at the FAULT's place. */
    void faultAt(String ahead, String part, int number) {
        fault(ahead + part, number, ahead.length());
    }

    /** An answer, which is no refusal. */
    void due(int promise, String call, TaleShares x, long got, long want) {
        check(promise, call, got, want);
        check(promise, call + " trouble", x.trouble(), 0);
    }

    void due(int promise, String call, TaleShares x, boolean got, boolean want) {
        due(promise, call, x, got ? 1 : 0, want ? 1 : 0);
    }

    void refused(int promise, String call, TaleShares x, long got, int trouble) {
        check(promise, call, got, TaleShares.NONE);
        check(promise, call + " trouble", x.trouble(), trouble);
    }

    void refused(int promise, String call, TaleShares x, boolean got, int trouble) {
        check(promise, call, got ? 1 : 0, 0);
        check(promise, call + " trouble", x.trouble(), trouble);
    }

    void check(int promise, String what, long got, long want) {
        asked++;
        askedByIt++;
        if (got != want) {
            wrong++;
            if (wrong <= 40) {
                System.out.println("promise " + promise + ": " + sentence + what + " answered "
                        + got + ", due is " + want);
            }
        }
    }

    void end() {
        endSentence();
        System.out.println(asked + " answers, " + wrong + " not as due");
        if (wrong != 0 || asked == 0) {
            System.exit(1);
        }
    }
}
