import java.nio.charset.StandardCharsets;

/** What the tests share: terraces by texts, and counting answers that are not due. */
final class TestHelp {
    static final String FIVE_PIECES = "piece a begins;piece b plain;piece c king;piece d king;"
            + "piece e ends;follows a b;follows a c;follows b c;follows b e;follows c e;"
            + "follows c d;follows d e";
    static final String THREE_HOUSES = "house x at 10 from 1 to 2;house y at 30 from 1 to 3;"
            + "house z at 12 from 2 to 2;heard x a;heard x b;heard y e;heard y c;heard z d;silent z";
    static final String BASE = "nurse kings 1 sleeps 50;" + FIVE_PIECES + ";" + THREE_HOUSES
            + ";mixed a,c,b,e";

    private int asked;
    private int wrong;

    static void feed(TaleShares x, String text) {
        byte[] bytes = text.getBytes(StandardCharsets.ISO_8859_1);
        for (int at = 0; at < bytes.length; at += 20) {
            int[] fours = new int[5];
            for (int i = 0; i < 20; i++) {
                int sign = at + i < bytes.length ? bytes[at + i] & 255 : 32;
                fours[i / 4] = fours[i / 4] << 8 | sign;
            }
            x.feed(fours[0], fours[1], fours[2], fours[3], fours[4]);
        }
    }

    static int tell(TaleShares x, String text) {
        feed(x, text);
        return x.terrace(text.length());
    }

    static TaleShares of(String text) {
        TaleShares x = new TaleShares();
        if (tell(x, text) == TaleShares.NONE) {
            throw new IllegalArgumentException("fault " + x.fault() + " at " + x.where() + ": " + text);
        }
        return x;
    }

    /** An answer, which is no refusal. */
    void due(int promise, String call, TaleShares x, long got, long want) {
        check(promise, call, got, want);
        check(promise, call + " trouble", x.trouble(), 0);
    }

    void due(int promise, String call, TaleShares x, boolean got, boolean want) {
        due(promise, call, x, got ? 1 : 0, want ? 1 : 0);
    }

    void refused(int promise, String call, TaleShares x, long got, int trouble) {
        check(promise, call, got, TaleShares.NONE);
        check(promise, call + " trouble", x.trouble(), trouble);
    }

    void refused(int promise, String call, TaleShares x, boolean got, int trouble) {
        check(promise, call, got ? 1 : 0, 0);
        check(promise, call + " trouble", x.trouble(), trouble);
    }

    void check(int promise, String what, long got, long want) {
        asked++;
        if (got != want) {
            wrong++;
            if (wrong <= 40) {
                System.out.println("promise " + promise + ": " + what + " answered " + got
                        + ", due is " + want);
            }
        }
    }

    void end() {
        System.out.println(asked + " answers, " + wrong + " not as due");
        if (wrong != 0 || asked == 0) {
            System.exit(1);
        }
    }
}
