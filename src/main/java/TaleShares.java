import java.util.NoSuchElementException;

/**
 * A nurse's tales by instalments, and the houses of a terrace that heard pieces of them.
 *
 * <p>A text makes the TERRACE (feed, terrace); the other calls ask about it or change what its
 * houses KNOW. README.md tells how to use it, the document what each call answers.
 */
public final class TaleShares {
    /** There is none; refused. */
    public static final int NONE = -1;

    /** Answers "there is none" of calls that are not refused by it. */
    private static final int NOTHING = -2;
    /** Refusal of a call that answers small numbers below 0 too. */
    private static final int NO_PAYMENT = -100;

    private static final int TAPE_BYTES = 900;
    private static final int FED_BYTES = 20;
    private static final int MOST_PIECES = 8;
    private static final int MOST_FOLLOWS = 14;
    private static final int MOST_HOUSES = 5;
    private static final int MOST_HEARD = 14;
    private static final int MOST_MIXED = 6;
    private static final int MOST_ROUNDS = 3;
    private static final int MOST_PAID = 6;
    private static final int MOST_WORTH = 20;
    private static final int MOST_EVENINGS = 60;
    private static final int SEEDS = 65537;
    private static final int HUNDRED = 100;

    private static final int BEGINS = 0;
    private static final int PLAIN = 1;
    private static final int KING = 2;
    private static final int ENDS = 3;

    // TROUBLE
    private static final int NO_TROUBLE = 0;
    private static final int NO_SUCH = 1;
    private static final int NUMBER = 2;
    private static final int NO_ROOM = 3;
    private static final int FAULTY = 4;
    private static final int NOT_SO = 5;
    private static final int THERE_IS_NONE = 6;

    private final Reader reader;
    private final Tales tales;
    private final Park park;
    private final Timetable timetable;
    private final Slips slips;
    private final Evening evening;
    private final Now now;
    private Terrace terrace;
    private boolean standing;
    private int trouble;

    public TaleShares() {
        terrace = new Terrace();
        reader = new Reader();
        tales = new Tales();
        park = new Park();
        timetable = new Timetable();
        slips = new Slips();
        evening = new Evening();
        now = new Now();
    }

    // ---- the terrace

    public int feed(int a, int b, int c, int d, int e) {
        if (reader.taped + FED_BYTES > TAPE_BYTES) {
            return NONE;
        }
        reader.takeFour(a);
        reader.takeFour(b);
        reader.takeFour(c);
        reader.takeFour(d);
        reader.takeFour(e);
        return reader.taped;
    }

    public int terrace(int n) {
        if (n < 0 || n > reader.taped) {
            return refuse(NUMBER);
        }
        if (!reader.reads(n)) {
            return refuse(FAULTY);
        }
        terrace = reader.changeFor(terrace);
        standing = true;
        tales.gather(terrace);
        park.open(terrace);
        timetable.make(terrace);
        slips.compare(terrace, tales);
        now.begin(terrace);
        return answer(terrace.pieces);
    }

    public int fault() {
        return reader.fault;
    }

    public int where() {
        return trouble == FAULTY ? reader.place : NONE;
    }

    // ---- now

    public int piece(int p, int what) {
        if (noPiece(p)) {
            return refuse(NO_SUCH);
        }
        switch (what) {
            case 0:
                return answer(terrace.kinds[p]);
            case 1:
                return answer(terrace.followers[p]);
            case 2:
                return answer(terrace.followedBy(p));
            case 3:
                return answer(now.whoKnow(p));
            default:
                return refuse(NO_SUCH);
        }
    }

    public int house(int h, int what) {
        if (noHouse(h)) {
            return refuse(NO_SUCH);
        }
        switch (what) {
            case 0:
                return answer(terrace.places[h]);
            case 1:
                return answer(terrace.from[h]);
            case 2:
                return answer(terrace.to[h]);
            case 3:
                return answer(now.knownBy(h));
            case 4:
                return answer(terrace.silent >> h & 1);
            case 5:
                return answer(hasSense(h) ? 1 : 0);
            default:
                return refuse(NO_SUCH);
        }
    }

    public int known() {
        return standing ? answer(unionOf(now.knows)) : refuse(NO_SUCH);
    }

    public int alone(int h) {
        if (noHouse(h)) {
            return refuse(NO_SUCH);
        }
        int others = unionOf(now.knows & ~(255L << 8 * h));
        return answer(now.knownBy(h) & ~others);
    }

    // ---- tales of some pieces, as bits

    public int tales(int pieces) {
        return noPieces(pieces) ? refuse(NO_SUCH) : answer(tales.countOf(pieces));
    }

    public int longest(int pieces) {
        if (noPieces(pieces)) {
            return refuse(NO_SUCH);
        }
        int tale = tales.longestOf(pieces);
        return answer(tale == NONE ? NOTHING : tales.lengthOf(tale));
    }

    public int longestAt(int pieces, int i) {
        return noPieces(pieces) ? refuse(NO_SUCH) : pieceOfTale(tales.longestOf(pieces), i);
    }

    public int taleAt(int pieces, int k, int i) {
        return noPieces(pieces) ? refuse(NO_SUCH) : pieceOfTale(tales.find(pieces, k), i);
    }

    public int used(int pieces) {
        return noPieces(pieces) ? refuse(NO_SUCH) : answer(tales.inSome(pieces));
    }

    public int needed(int pieces) {
        return noPieces(pieces) ? refuse(NO_SUCH) : answer(tales.inAll(pieces));
    }

    public int leftOver(int pieces) {
        if (noPieces(pieces)) {
            return refuse(NO_SUCH);
        }
        int tale = tales.longestOf(pieces);
        return answer(Integer.bitCount(pieces) - (tale == NONE ? 0 : tales.lengthOf(tale)));
    }

    public int isTale(int row) {
        if (!standing) {
            return refuse(NO_SUCH);
        }
        if (row < 1) {
            return refuse(NUMBER);
        }
        for (int rest = row; rest > 0; rest /= 10) {
            if (noPiece(rest % 10 - 1)) {
                return refuse(NUMBER);
            }
        }
        return answer(tales.haveRow(row) ? 1 : 0);
    }

    // ---- houses

    public int talesOf(int h) {
        return noHouse(h) ? refuse(NO_SUCH) : answer(tales.countOf(now.knownBy(h)));
    }

    public int wanted(int h) {
        if (noHouse(h)) {
            return refuse(NO_SUCH);
        }
        int best = NOTHING;
        int most = tales.countOf(now.knownBy(h));
        for (int p = 0; p < terrace.pieces; p++) {
            int then = tales.countOf(now.knownBy(h) | 1 << p);
            if (then > most) {
                best = p;
                most = then;
            }
        }
        return answer(best);
    }

    public int ask(int h) {
        if (noHouse(h)) {
            return refuse(NO_SUCH);
        }
        int best = NOTHING;
        int most = tales.countOf(now.knownBy(h));
        for (int other = 0; other < terrace.houses; other++) {
            // What the house would tell itself makes no more TALES: it needs no test.
            int then = terrace.isSilent(other)
                    ? 0 : tales.countOf(now.knownBy(h) | now.knownBy(other));
            if (then > most) {
                best = other;
                most = then;
            }
        }
        return answer(best);
    }

    public int askAll(int h) {
        if (noHouse(h)) {
            return refuse(NO_SUCH);
        }
        int best = NOTHING;
        int cannotTell = terrace.silent | 1 << h;
        for (int set = 0; set < 1 << terrace.houses; set++) {
            boolean fewer = best == NOTHING || Integer.bitCount(set) < Integer.bitCount(best);
            if ((set & cannotTell) == 0 && fewer
                    && tales.makeSense(now.knownBy(h) | now.knownByAny(set))) {
                best = set;
            }
        }
        return answer(best);
    }

    public int sense() {
        if (!standing) {
            return refuse(NO_SUCH);
        }
        int bits = 0;
        for (int h = 0; h < terrace.houses; h++) {
            if (hasSense(h)) {
                bits |= 1 << h;
            }
        }
        return answer(bits);
    }

    public int wisest() {
        if (!standing) {
            return refuse(NO_SUCH);
        }
        int best = NOTHING;
        int most = NONE;
        for (int h = 0; h < terrace.houses; h++) {
            int many = Integer.bitCount(now.knownBy(h));
            if (many > most) {
                best = h;
                most = many;
            }
        }
        return answer(best);
    }

    // ---- the park

    public int soonest() {
        return standing ? answer(park.fewestRounds(now.knows)) : refuse(NO_SUCH);
    }

    public int meets(int r, int h) {
        if (noHouse(h) || r < 0 || r >= park.fewestRounds(now.knows)) {
            return refuse(NO_SUCH);
        }
        return answer(park.partnerOnWay(r, h));
    }

    public int mostBehind(int rounds) {
        if (!standing) {
            return refuse(NO_SUCH);
        }
        if (rounds < 0 || rounds >= MOST_ROUNDS) {
            return refuse(NUMBER);
        }
        return answer(park.mostThatKnowAll(now.knows, rounds));
    }

    // ---- a timetable

    public int walks() {
        if (!standing) {
            return refuse(NO_SUCH);
        }
        return terrace.houses == 0 ? refuse(THERE_IS_NONE) : answer(timetable.way);
    }

    public int visit(int i) {
        // There is an i-th house of the order just if there is an i-th house.
        if (noHouse(i) || timetable.keptOrders == 0) {
            return refuse(NO_SUCH);
        }
        return answer(timetable.order[i]);
    }

    public int hourOf(int h) {
        if (noHouse(h)) {
            return refuse(NO_SUCH);
        }
        return answer(timetable.keptOrders == 0 ? NOTHING : timetable.hours[h]);
    }

    public int orders() {
        if (!standing) {
            return refuse(NO_SUCH);
        }
        return terrace.houses == 0 ? refuse(THERE_IS_NONE) : answer(timetable.keptOrders);
    }

    // ---- a mixed row

    public int slips() {
        return noMixed() ? refuse(whyNoMixed()) : answer(slips.fewest);
    }

    public int meant(int i) {
        return noMixed() ? refuse(whyNoMixed()) : pieceOfTale(slips.firstTale, i);
    }

    public int meanings() {
        return noMixed() ? refuse(whyNoMixed()) : answer(slips.likeTales);
    }

    private boolean noMixed() {
        return terrace.mixed == 0;
    }

    private int whyNoMixed() {
        return standing ? THERE_IS_NONE : NO_SUCH;
    }

    // ---- two fathers

    public int father(int worth, int one, int other, boolean ofOther) {
        int why = whyNoHour(worth);
        if (why == NO_TROUBLE && (noPayment(one) || noPayment(other))) {
            why = NUMBER;
        }
        if (why != NO_TROUBLE) {
            trouble = why;
            return NO_PAYMENT;
        }
        return answer(ofOther ? Fathers.has(worth, other, one) : Fathers.has(worth, one, other));
    }

    public int rests(int worth) {
        int why = whyNoHour(worth);
        return why == NO_TROUBLE ? answer(Fathers.countRests(worth)) : refuse(why);
    }

    public int rest(int worth) {
        int why = whyNoHour(worth);
        return why == NO_TROUBLE ? answer(Fathers.firstRest(worth)) : refuse(why);
    }

    private int whyNoHour(int worth) {
        if (!standing) {
            return NO_SUCH;
        }
        return worth < 0 || worth > MOST_WORTH ? NUMBER : NO_TROUBLE;
    }

    private static boolean noPayment(int paid) {
        return paid < 0 || paid > MOST_PAID;
    }

    // ---- sleep by chance

    public long tells(int n, int many, boolean lower) {
        int why = whyNoChance(n);
        if (why == NO_TROUBLE && (many < 0 || many > n)) {
            why = NUMBER;
        }
        if (why != NO_TROUBLE) {
            return refuse(why);
        }
        trouble = NO_TROUBLE;
        return Chance.ofTelling(terrace.sleeps, n, many, lower);
    }

    public long mean(int n, boolean lower) {
        int why = whyNoChance(n);
        if (why != NO_TROUBLE) {
            return refuse(why);
        }
        trouble = NO_TROUBLE;
        return Chance.ofMean(terrace.sleeps, n, lower);
    }

    private int whyNoChance(int n) {
        if (!standing) {
            return NO_SUCH;
        }
        return n < 0 || n > MOST_PIECES ? NUMBER : NO_TROUBLE;
    }

    // ---- evenings by draws

    public int evenings(int h, int seed, int n) {
        if (noHouse(h)) {
            return refuse(NO_SUCH);
        }
        if (noSeed(seed) || noEvenings(n)) {
            return refuse(NUMBER);
        }
        long knows = now.knows;
        evening.seed = seed;
        for (int k = 0; k < n; k++) {
            knows = behindEvening(knows, k);
        }
        return answer(partOf(knows, h));
    }

    public int allSense(int seed, int n) {
        if (terrace.houses == 0) {
            return refuse(NO_SUCH);
        }
        if (noSeed(seed) || noEvenings(n)) {
            return refuse(NUMBER);
        }
        long knows = now.knows;
        evening.seed = seed;
        for (int k = 0; k < n; k++) {
            knows = behindEvening(knows, k);
            if (allHaveSense(knows)) {
                return answer(k + 1);
            }
        }
        return answer(0);
    }

    /** What houses KNOW behind the k-th of the evenings that go from house to house by turns. */
    private long behindEvening(long knows, int k) {
        int houses = terrace.houses;
        if (houses <= 0) {
            return knows;
        }
        evening.pass(tales, terrace);
        return withMore(knows, k % houses, evening.heard);
    }

    private boolean allHaveSense(long knows) {
        for (int h = 0; h < terrace.houses; h++) {
            if (!tales.makeSense(partOf(knows, h))) {
                return false;
            }
        }
        return true;
    }

    private static boolean noEvenings(int n) {
        return n < 0 || n > MOST_EVENINGS;
    }

    private static boolean noSeed(int seed) {
        return seed < 0 || seed >= SEEDS;
    }

    // ---- acts

    public int tell(int h, int other) {
        if (noHouse(h) || noHouse(other) || h == other) {
            return refuse(NO_SUCH);
        }
        if (terrace.isSilent(h)) {
            return refuse(NOT_SO);
        }
        int more = now.knownBy(h) & ~now.knownBy(other);
        now.keep();
        now.knows = withMore(now.knows, other, more);
        return answer(more);
    }

    public boolean learn(int h, int p) {
        if (noHouse(h) || noPiece(p)) {
            return deny(NO_SUCH);
        }
        if (now.isKnown(h, p)) {
            return deny(NOT_SO);
        }
        now.keep();
        now.knows = withMore(now.knows, h, 1 << p);
        return allow();
    }

    public boolean forget(int h, int p) {
        if (noHouse(h) || noPiece(p)) {
            return deny(NO_SUCH);
        }
        if (!now.isKnown(h, p)) {
            return deny(NOT_SO);
        }
        now.keep();
        now.knows &= ~(1L << 8 * h + p);
        return allow();
    }

    public int evening(int h) {
        if (noHouse(h)) {
            return refuse(NO_SUCH);
        }
        if (tales.many == 0) {
            return refuse(THERE_IS_NONE);
        }
        now.keep();
        evening.seed = now.seed;
        evening.pass(tales, terrace);
        now.seed = evening.seed;
        now.knows = withMore(now.knows, h, evening.heard);
        return answer(Integer.bitCount(evening.heard));
    }

    public boolean seed(int v) {
        if (!standing) {
            return deny(NO_SUCH);
        }
        if (noSeed(v)) {
            return deny(NUMBER);
        }
        now.seed = v;
        return allow();
    }

    public boolean undo() {
        return now.undoLatest() ? allow() : deny(THERE_IS_NONE);
    }

    public int image() {
        if (!standing) {
            return refuse(NO_SUCH);
        }
        int number = now.takeImage();
        return number == NONE ? refuse(NO_ROOM) : answer(number);
    }

    public boolean back(int image) {
        return now.goBack(image) ? allow() : deny(NO_SUCH);
    }

    // ---- what is told

    public int led(int i) throws NoSuchElementException {
        int ahead = 0;
        for (int h = 0; h < terrace.houses; h++) {
            if (!hasSense(h)) {
                if (ahead == i) {
                    return h;
                }
                ahead++;
            }
        }
        throw new NoSuchElementException();
    }

    public int size(int what) {
        switch (what) {
            case 0:
                return terrace.kings;
            case 1:
                return terrace.sleeps;
            case 2:
                return terrace.pieces;
            case 3:
                return terrace.follows;
            case 4:
                return terrace.houses;
            case 5:
                return terrace.heardLines;
            case 6:
                return Integer.bitCount(terrace.silent);
            case 7:
                return terrace.mixed;
            case 8:
                return now.seed;
            case 9:
                return now.keptMany;
            case 10:
                return now.imageMany;
            case 11:
                return reader.taped;
            default:
                return NONE;
        }
    }

    public int trouble() {
        return trouble;
    }

    // ---- what the calls share

    private int refuse(int why) {
        trouble = why;
        return NONE;
    }

    private int answer(int value) {
        trouble = NO_TROUBLE;
        return value;
    }

    private boolean deny(int why) {
        trouble = why;
        return false;
    }

    private boolean allow() {
        trouble = NO_TROUBLE;
        return true;
    }

    /** Without a TERRACE there are no pieces, so this refuses there too; noHouse likewise. */
    private boolean noPiece(int p) {
        return p < 0 || p >= terrace.pieces;
    }

    private boolean noHouse(int h) {
        return h < 0 || h >= terrace.houses;
    }

    private boolean noPieces(int pieces) {
        return !standing || pieces < 0 || pieces > terrace.allPieces();
    }

    private boolean hasSense(int h) {
        return tales.makeSense(now.knownBy(h));
    }

    private int pieceOfTale(int tale, int i) {
        if (tale == NONE || i < 0 || i >= tales.lengthOf(tale)) {
            return refuse(NO_SUCH);
        }
        return answer(tales.pieceAt(tale, i));
    }

    // What all houses KNOW stands in one number, eight bits a house from the lowest on: so NOW
    // can be kept, gone back to and tried further without a new object.

    private static int partOf(long knows, int h) {
        return (int) (knows >> 8 * h) & 255;
    }

    private static long withMore(long knows, int h, int pieces) {
        return knows | (long) pieces << 8 * h;
    }

    private static int unionOf(long knows) {
        int union = 0;
        for (int h = 0; h < MOST_HOUSES; h++) {
            union |= partOf(knows, h);
        }
        return union;
    }

    /** What a text told. */
    private static final class Terrace {
        int kings;
        int sleeps;
        int pieces;
        int follows;
        int houses;
        int heardLines;
        int silent;
        int mixed;
        final int[] kinds = new int[MOST_PIECES];
        /** Of each piece those that may follow it, as bits. */
        final int[] followers = new int[MOST_PIECES];
        final int[] places = new int[MOST_HOUSES];
        final int[] from = new int[MOST_HOUSES];
        final int[] to = new int[MOST_HOUSES];
        /** Of each house the pieces that it heard, as bits. */
        final int[] heard = new int[MOST_HOUSES];
        final int[] mixedRow = new int[MOST_MIXED];

        void clear() {
            kings = 0;
            sleeps = 0;
            pieces = 0;
            follows = 0;
            houses = 0;
            heardLines = 0;
            silent = 0;
            mixed = 0;
            for (int p = 0; p < MOST_PIECES; p++) {
                followers[p] = 0;
            }
            for (int h = 0; h < MOST_HOUSES; h++) {
                heard[h] = 0;
            }
        }

        int allPieces() {
            return (1 << pieces) - 1;
        }

        boolean isSilent(int h) {
            return (silent >> h & 1) != 0;
        }

        boolean mayFollow(int first, int second) {
            return (followers[first] >> second & 1) != 0;
        }

        int followedBy(int second) {
            int bits = 0;
            for (int first = 0; first < pieces; first++) {
                if (mayFollow(first, second)) {
                    bits |= 1 << first;
                }
            }
            return bits;
        }
    }

    /** THE TAPE; reads a text on it into a Terrace, up to its first FAULT. */
    private static final class Reader {
        private static final int FORM = 1;
        private static final int UNTOLD = 2;
        private static final int AGAIN = 3;
        private static final int BOUNDS = 4;
        private static final int MANY = 5;
        private static final int LACKS = 6;

        private static final int END = 0;
        private static final int NO_TOKEN = 1;
        private static final int WORD = 2;
        private static final int WHOLE = 3;
        private static final int SEMICOLON = 4;
        private static final int COMMA = 5;

        private static final int LONGEST_WORD = 8;
        private static final int LONGEST_WHOLE = 3;

        int fault;
        /** Where the TOKEN at hand begins; behind a FAULT, the FAULT's place. */
        int place;
        int taped;
        private final byte[] text = new byte[TAPE_BYTES];
        private int length;
        private int behind;
        private int sort;
        private int value;
        /** The WORD at hand, five bits a letter, so that NAMES are compared as numbers. */
        private long letters;
        private boolean nursed;
        /** Never the one that stands, so that a faulty text leaves the TERRACE alone. */
        private Terrace told = new Terrace();
        private final long[] pieceNames = new long[MOST_PIECES];
        private final long[] houseNames = new long[MOST_HOUSES];

        void takeFour(int four) {
            for (int shift = 24; shift >= 0; shift -= 8) {
                if (taped < text.length) {
                    text[taped] = (byte) (four >> shift);
                    taped++;
                }
            }
        }

        /** What was read last, for one that may be read into next. */
        Terrace changeFor(Terrace old) {
            Terrace read = told;
            told = old;
            return read;
        }

        boolean reads(int bytes) {
            taped = 0;
            told.clear();
            length = Math.min(bytes, text.length);
            behind = 0;
            nursed = false;
            fault = 0;
            step();
            for (int lines = 0; lines <= length; lines++) {
                if (!readLine()) {
                    return false;
                }
                if (sort == END) {
                    return told.pieces > 0 || fail(LACKS);
                }
                if (sort != SEMICOLON) {
                    return fail(FORM);
                }
                step();
            }
            return fail(FORM);
        }

        private boolean fail(int number) {
            fault = number;
            return false;
        }

        // TOKENS

        private void step() {
            place = behind;
            while (place < length && text[place] == ' ') {
                place++;
            }
            if (place >= length) {
                place = length;
                behind = length;
                sort = END;
            } else if (isLetter(text[place])) {
                takeWord();
            } else if (isDigit(text[place])) {
                takeWhole();
            } else {
                sort = text[place] == ';' ? SEMICOLON : text[place] == ',' ? COMMA : NO_TOKEN;
                behind = place + 1;
            }
        }

        private void takeWord() {
            letters = 0;
            behind = place;
            while (behind < length && isLetter(text[behind])) {
                letters = letters * 32 + (text[behind] - 'a' + 1);
                behind++;
            }
            sort = behind - place <= LONGEST_WORD ? WORD : NO_TOKEN;
        }

        private void takeWhole() {
            value = 0;
            behind = place;
            while (behind < length && isDigit(text[behind])) {
                value = value * 10 + (text[behind] - '0');
                behind++;
            }
            sort = behind - place <= LONGEST_WHOLE ? WHOLE : NO_TOKEN;
        }

        private static boolean isLetter(byte sign) {
            return sign >= 'a' && sign <= 'z';
        }

        private static boolean isDigit(byte sign) {
            return sign >= '0' && sign <= '9';
        }

        private boolean says(String word) {
            if (sort != WORD || behind - place != word.length()) {
                return false;
            }
            for (int i = 0; i < word.length(); i++) {
                if (text[place + i] != word.charAt(i)) {
                    return false;
                }
            }
            return true;
        }

        // LINES

        private boolean readLine() {
            if (says("nurse")) {
                return readNurse();
            }
            if (says("piece")) {
                return readPiece();
            }
            if (says("follows")) {
                return readFollows();
            }
            if (says("house")) {
                return readHouse();
            }
            if (says("heard")) {
                return readHeard();
            }
            if (says("silent")) {
                return readSilent();
            }
            return says("mixed") ? readMixed() : fail(FORM);
        }

        private boolean readNurse() {
            if (nursed) {
                return fail(AGAIN);
            }
            nursed = true;
            step();
            if (!passWord("kings") || !passWhole(0, 4)) {
                return false;
            }
            told.kings = value;
            if (!passWord("sleeps") || !passWhole(0, HUNDRED)) {
                return false;
            }
            told.sleeps = value;
            return true;
        }

        private boolean readPiece() {
            int p = told.pieces;
            if (!passFirstWord(false, p >= MOST_PIECES) || !isNewName()) {
                return false;
            }
            pieceNames[p] = letters;
            step();
            int kind = kindHere();
            if (kind == NONE) {
                return fail(FORM);
            }
            step();
            told.kinds[p] = kind;
            told.pieces++;
            return true;
        }

        private int kindHere() {
            if (says("begins")) {
                return BEGINS;
            }
            if (says("plain")) {
                return PLAIN;
            }
            if (says("king")) {
                return KING;
            }
            return says("ends") ? ENDS : NONE;
        }

        private boolean readFollows() {
            if (!passFirstWord(false, told.follows >= MOST_FOLLOWS)) {
                return false;
            }
            int first = nameHere(pieceNames, told.pieces);
            if (first == NONE) {
                return false;
            }
            step();
            int second = nameHere(pieceNames, told.pieces);
            if (second == NONE) {
                return false;
            }
            if (second == first || told.mayFollow(first, second)) {
                return fail(AGAIN);
            }
            step();
            told.followers[first] |= 1 << second;
            told.follows++;
            return true;
        }

        private boolean readHouse() {
            int h = told.houses;
            if (!passFirstWord(false, h >= MOST_HOUSES) || !isNewName()) {
                return false;
            }
            houseNames[h] = letters;
            step();
            if (!passWord("at") || !passWhole(0, 99)) {
                return false;
            }
            told.places[h] = value;
            if (!passWord("from") || !passWhole(0, 23)) {
                return false;
            }
            told.from[h] = value;
            if (!passWord("to") || !passWhole(told.from[h], 23)) {
                return false;
            }
            told.to[h] = value;
            told.houses++;
            return true;
        }

        private boolean readHeard() {
            if (!passFirstWord(false, told.heardLines >= MOST_HEARD)) {
                return false;
            }
            int h = nameHere(houseNames, told.houses);
            if (h == NONE) {
                return false;
            }
            step();
            int p = nameHere(pieceNames, told.pieces);
            if (p == NONE) {
                return false;
            }
            if ((told.heard[h] >> p & 1) != 0) {
                return fail(AGAIN);
            }
            step();
            told.heard[h] |= 1 << p;
            told.heardLines++;
            return true;
        }

        private boolean readSilent() {
            if (!passFirstWord(false, false)) {
                return false;
            }
            int h = nameHere(houseNames, told.houses);
            if (h == NONE) {
                return false;
            }
            if (told.isSilent(h)) {
                return fail(AGAIN);
            }
            step();
            told.silent |= 1 << h;
            return true;
        }

        private boolean readMixed() {
            if (!passFirstWord(told.mixed > 0, false)) {
                return false;
            }
            for (int i = 0; i <= MOST_MIXED; i++) {
                int p = nameHere(pieceNames, told.pieces);
                if (p == NONE) {
                    return false;
                }
                if (i >= MOST_MIXED) {
                    return fail(MANY);
                }
                told.mixedRow[i] = p;
                told.mixed = i + 1;
                step();
                if (sort != COMMA) {
                    return true;
                }
                step();
            }
            return fail(MANY);
        }

        // parts of LINES

        private boolean passFirstWord(boolean again, boolean full) {
            if (again) {
                return fail(AGAIN);
            }
            if (full) {
                return fail(MANY);
            }
            if (!nursed) {
                return fail(LACKS);
            }
            step();
            return true;
        }

        private boolean passWord(String word) {
            if (!says(word)) {
                return fail(FORM);
            }
            step();
            return true;
        }

        /** Leaves the number in value: stepping on to a TOKEN that may stand there keeps it. */
        private boolean passWhole(int least, int most) {
            if (sort != WHOLE) {
                return fail(FORM);
            }
            if (value < least || value > most) {
                return fail(BOUNDS);
            }
            int number = value;
            step();
            value = number;
            return true;
        }

        private boolean isName() {
            return sort == WORD && !says("nurse") && !says("piece") && !says("follows")
                    && !says("house") && !says("heard") && !says("silent") && !says("mixed");
        }

        private boolean isNewName() {
            if (!isName()) {
                return fail(FORM);
            }
            boolean old = indexIn(pieceNames, told.pieces) != NONE
                    || indexIn(houseNames, told.houses) != NONE;
            return !old || fail(AGAIN);
        }

        /** Which of these NAMES the TOKEN at hand is; NONE, and a FAULT, if it is none. */
        private int nameHere(long[] names, int many) {
            if (!isName()) {
                fail(FORM);
                return NONE;
            }
            int index = indexIn(names, many);
            if (index == NONE) {
                fail(UNTOLD);
            }
            return index;
        }

        private int indexIn(long[] names, int many) {
            for (int i = 0; i < many && i < names.length; i++) {
                if (names[i] == letters) {
                    return i;
                }
            }
            return NONE;
        }
    }

    /** All TALES of all pieces, in their order; those of some pieces are those with no other. */
    private static final class Tales {
        /**
         * A TALE is told by its first two pieces and by which piece follows each one between, so
         * there are no more than the product of how many follows lead away from those that begin
         * and, for each that stands between, how many lead away from it; numbers whose sum is the
         * 14 that can be told have no greater product than 3 * 3 * 3 * 3 * 2.
         */
        private static final int MOST_TALES = 162;

        int many;
        /** Digits, the first piece's the highest, each the piece's number and 1. */
        private final int[] rows = new int[MOST_TALES];
        /** Their pieces, as bits. */
        private final int[] sets = new int[MOST_TALES];

        void gather(Terrace of) {
            many = 0;
            for (int p = 0; p < of.pieces; p++) {
                if (of.kinds[p] == BEGINS) {
                    goOn(of, p, 1 << p, p + 1, of.kings);
                }
            }
        }

        /** Each level has one piece more in its set: no more levels than pieces. */
        private void goOn(Terrace of, int last, int set, int row, int kingsLeft) {
            if (Integer.bitCount(set) >= MOST_PIECES) {
                return;
            }
            for (int p = 0; p < of.pieces; p++) {
                if (!of.mayFollow(last, p) || (set >> p & 1) != 0) {
                    continue;
                }
                int kind = of.kinds[p];
                if (kind == ENDS) {
                    add(row * 10 + p + 1, set | 1 << p);
                } else if (kind == PLAIN) {
                    goOn(of, p, set | 1 << p, row * 10 + p + 1, kingsLeft);
                } else if (kind == KING && kingsLeft > 0) {
                    goOn(of, p, set | 1 << p, row * 10 + p + 1, kingsLeft - 1);
                }
            }
        }

        private void add(int row, int set) {
            if (many < MOST_TALES) {
                rows[many] = row;
                sets[many] = set;
                many++;
            }
        }

        private boolean isOf(int tale, int pieces) {
            return (sets[tale] & ~pieces) == 0;
        }

        int lengthOf(int tale) {
            return Integer.bitCount(sets[tale]);
        }

        int pieceAt(int tale, int i) {
            int row = rows[tale];
            for (int behind = lengthOf(tale) - 1; behind > i; behind--) {
                row /= 10;
            }
            return row % 10 - 1;
        }

        boolean haveRow(int row) {
            for (int t = 0; t < many; t++) {
                if (rows[t] == row) {
                    return true;
                }
            }
            return false;
        }

        boolean makeSense(int pieces) {
            return find(pieces, 0) != NONE;
        }

        /** The number of the k-th TALE of these pieces; NONE without. */
        int find(int pieces, int k) {
            int ahead = 0;
            for (int t = 0; t < many; t++) {
                if (isOf(t, pieces)) {
                    if (ahead == k) {
                        return t;
                    }
                    ahead++;
                }
            }
            return NONE;
        }

        int countOf(int pieces) {
            int count = 0;
            for (int t = 0; t < many; t++) {
                if (isOf(t, pieces)) {
                    count++;
                }
            }
            return count;
        }

        int longestOf(int pieces) {
            int best = NONE;
            int most = 0;
            for (int t = 0; t < many; t++) {
                if (isOf(t, pieces) && lengthOf(t) > most) {
                    best = t;
                    most = lengthOf(t);
                }
            }
            return best;
        }

        int inSome(int pieces) {
            int bits = 0;
            for (int t = 0; t < many; t++) {
                if (isOf(t, pieces)) {
                    bits |= sets[t];
                }
            }
            return bits;
        }

        int inAll(int pieces) {
            int bits = inSome(pieces);
            for (int t = 0; t < many; t++) {
                if (isOf(t, pieces)) {
                    bits &= sets[t];
                }
            }
            return bits;
        }
    }

    /** ROUNDS in the park, tried in their order. */
    private static final class Park {
        /** Ways in which five houses can meet two and two. */
        private static final int MOST_PAIRINGS = 26;
        private static final int NOBODY = 15;

        /** Of each pairing the partners, four bits a house from the lowest on. */
        private final int[] pairings = new int[MOST_PAIRINGS];
        private final int[] way = new int[MOST_ROUNDS];
        private int many;
        private int houses;
        private int silent;
        private int all;

        void open(Terrace of) {
            houses = of.houses;
            silent = of.silent;
            many = 0;
            pairFrom(0, 0, 0);
        }

        /** Partners of houses below h are told; a level for each house. */
        private void pairFrom(int h, int paired, int partners) {
            if (h >= houses) {
                if (many < MOST_PAIRINGS) {
                    pairings[many] = partners;
                    many++;
                }
                return;
            }
            if ((paired >> h & 1) != 0) {
                pairFrom(h + 1, paired, partners);
                return;
            }
            for (int other = h + 1; other < houses; other++) {
                if ((paired >> other & 1) == 0) {
                    pairFrom(h + 1, paired | 1 << other,
                            partners | other << 4 * h | h << 4 * other);
                }
            }
            pairFrom(h + 1, paired, partners | NOBODY << 4 * h);
        }

        private int partnerBy(int pairing, int h) {
            return pairings[pairing] >> 4 * h & 15;
        }

        int partnerOnWay(int r, int h) {
            int partner = partnerBy(way[r], h);
            return partner == NOBODY ? NOTHING : partner;
        }

        /** Leaves the first such way in way. */
        int fewestRounds(long knows) {
            all = unionOf(knows);
            for (int rounds = 0; rounds <= MOST_ROUNDS; rounds++) {
                if (leadsOn(knows, 0, rounds)) {
                    return rounds;
                }
            }
            return NOTHING;
        }

        private boolean leadsOn(long knows, int done, int rounds) {
            if (done >= rounds) {
                return countAllKnowing(knows) == houses;
            }
            // Most ways fail at their last ROUND: one look there spares trying all pairings.
            if (done + 1 == rounds && isTooFar(knows)) {
                return false;
            }
            for (int pairing = 0; pairing < many; pairing++) {
                way[done] = pairing;
                if (leadsOn(behindRound(knows, pairing), done + 1, rounds)) {
                    return true;
                }
            }
            return false;
        }

        /** Some house can't KNOW all behind one ROUND, whomever it meets. */
        private boolean isTooFar(long knows) {
            for (int h = 0; h < houses; h++) {
                boolean can = partOf(knows, h) == all;
                for (int other = 0; other < houses && !can; other++) {
                    can = (silent >> other & 1) == 0
                            && (partOf(knows, h) | partOf(knows, other)) == all;
                }
                if (!can) {
                    return true;
                }
            }
            return false;
        }

        private long behindRound(long knows, int pairing) {
            long then = knows;
            for (int h = 0; h < houses; h++) {
                int partner = partnerBy(pairing, h);
                if (partner != NOBODY && (silent >> partner & 1) == 0) {
                    then = withMore(then, h, partOf(knows, partner));
                }
            }
            return then;
        }

        private int countAllKnowing(long knows) {
            int count = 0;
            for (int h = 0; h < houses; h++) {
                if (partOf(knows, h) == all) {
                    count++;
                }
            }
            return count;
        }

        int mostThatKnowAll(long knows, int rounds) {
            all = unionOf(knows);
            return mostFrom(knows, rounds);
        }

        private int mostFrom(long knows, int roundsLeft) {
            if (roundsLeft <= 0) {
                return countAllKnowing(knows);
            }
            int most = 0;
            for (int pairing = 0; pairing < many; pairing++) {
                most = Math.max(most, mostFrom(behindRound(knows, pairing), roundsLeft - 1));
            }
            return most;
        }
    }

    /** The TIMETABLE: orders are tried in their order, each house at its earliest hour. */
    private static final class Timetable {
        int way;
        int keptOrders;
        final int[] order = new int[MOST_HOUSES];
        final int[] hours = new int[MOST_HOUSES];
        private final int[] tried = new int[MOST_HOUSES];

        void make(Terrace of) {
            way = NOTHING;
            keptOrders = 0;
            visitFrom(of, 0, 0, NONE, 0);
            int hour = NONE;
            for (int i = 0; i < of.houses && keptOrders > 0; i++) {
                hour = Math.max(hour + 1, of.from[order[i]]);
                hours[order[i]] = hour;
            }
        }

        /** A level for each house that was visited. */
        private void visitFrom(Terrace of, int i, int visited, int hour, int walked) {
            if (i >= of.houses) {
                keepOrder(of.houses, walked);
                return;
            }
            for (int h = 0; h < of.houses; h++) {
                int its = Math.max(hour + 1, of.from[h]);
                if ((visited >> h & 1) == 0 && its <= of.to[h]) {
                    int step = i == 0 ? 0 : Math.abs(of.places[h] - of.places[tried[i - 1]]);
                    tried[i] = h;
                    visitFrom(of, i + 1, visited | 1 << h, its, walked + step);
                }
            }
        }

        private void keepOrder(int houses, int walked) {
            if (keptOrders == 0 || walked < way) {
                way = walked;
                for (int i = 0; i < houses; i++) {
                    order[i] = tried[i];
                }
            }
            keptOrders++;
        }
    }

    /** The fewest SLIPS by which the mixed row was a TALE. */
    private static final class Slips {
        int fewest;
        int firstTale;
        int likeTales;
        /** SLIPS from the beginning of the row to each beginning of a TALE. */
        private final int[] costs = new int[MOST_PIECES + 1];

        void compare(Terrace of, Tales tales) {
            fewest = NOTHING;
            firstTale = NONE;
            likeTales = 0;
            for (int t = 0; t < tales.many && of.mixed > 0; t++) {
                int count = between(of, tales, t);
                if (firstTale == NONE || count < fewest) {
                    fewest = count;
                    firstTale = t;
                    likeTales = 0;
                }
                if (count == fewest) {
                    likeTales++;
                }
            }
        }

        private int between(Terrace of, Tales tales, int tale) {
            int length = Math.min(tales.lengthOf(tale), MOST_PIECES);
            for (int j = 0; j <= length; j++) {
                costs[j] = j;
            }
            for (int i = 0; i < of.mixed; i++) {
                int corner = costs[0];
                costs[0] = i + 1;
                for (int j = 1; j <= length; j++) {
                    int above = costs[j];
                    int replaced = of.mixedRow[i] == tales.pieceAt(tale, j - 1) ? 0 : 1;
                    int leftOutOrPutIn = 1 + Math.min(above, costs[j - 1]);
                    costs[j] = Math.min(corner + replaced, leftOutOrPutIn);
                    corner = above;
                }
            }
            return costs[length];
        }
    }

    /** TWO FATHERS at the stair. */
    private static final class Fathers {
        private static final int ALONE = 2;

        static int has(int worth, int paid, int otherPaid) {
            if (paid < otherPaid) {
                return -paid;
            }
            return (paid > otherPaid ? worth + ALONE : worth) - paid;
        }

        private static boolean isBest(int worth, int paid, int otherPaid) {
            for (int instead = 0; instead <= MOST_PAID; instead++) {
                if (has(worth, instead, otherPaid) > has(worth, paid, otherPaid)) {
                    return false;
                }
            }
            return true;
        }

        private static boolean isRest(int worth, int one, int other) {
            return isBest(worth, one, other) && isBest(worth, other, one);
        }

        static int countRests(int worth) {
            int count = 0;
            for (int one = 0; one <= MOST_PAID; one++) {
                for (int other = 0; other <= MOST_PAID; other++) {
                    if (isRest(worth, one, other)) {
                        count++;
                    }
                }
            }
            return count;
        }

        static int firstRest(int worth) {
            for (int one = 0; one <= MOST_PAID; one++) {
                for (int other = 0; other <= MOST_PAID; other++) {
                    if (isRest(worth, one, other)) {
                        return 10 * one + other;
                    }
                }
            }
            return NOTHING;
        }
    }

    /** SLEEP BY CHANCE, in whole numbers: the greatest is below 9 times 100 to the 8th. */
    private static final class Chance {
        /** Euclid's way ends in fewer turns for any two longs. */
        private static final int MOST_TURNS = 100;

        static long ofTelling(int sleeps, int n, int many, boolean lower) {
            long awake = power(HUNDRED - sleeps, many);
            if (many >= n) {
                return inLowest(awake, power(HUNDRED, many), lower);
            }
            return inLowest(awake * sleeps, power(HUNDRED, many + 1), lower);
        }

        /** The mean is the sum of how likely the 1st, 2nd, .. n-th piece is told. */
        static long ofMean(int sleeps, int n, boolean lower) {
            long sum = 0;
            for (int k = 1; k <= n; k++) {
                sum += power(HUNDRED - sleeps, k) * power(HUNDRED, n - k);
            }
            return inLowest(sum, power(HUNDRED, n), lower);
        }

        private static long power(long base, int exponent) {
            long product = 1;
            for (int i = 0; i < exponent; i++) {
                product *= base;
            }
            return product;
        }

        private static long inLowest(long upper, long under, boolean lower) {
            long divisor = commonOf(upper, under);
            return (lower ? under : upper) / divisor;
        }

        /** At least 1, so that it may divide. */
        private static long commonOf(long a, long b) {
            long greater = a;
            long less = b;
            for (int turn = 0; turn < MOST_TURNS && less != 0; turn++) {
                long rest = greater % less;
                greater = less;
                less = rest;
            }
            return Math.max(greater, 1);
        }
    }

    /** One EVENING by DRAWS. */
    private static final class Evening {
        int seed;
        /** What she told, as bits. */
        int heard;

        void pass(Tales tales, Terrace of) {
            heard = 0;
            int tale = tales.longestOf(of.allPieces());
            if (tale == NONE) {
                return;
            }
            int length = tales.lengthOf(tale);
            for (int i = 0; i < length; i++) {
                seed = (75 * seed + 74) % SEEDS;
                if (seed % HUNDRED < of.sleeps) {
                    return;
                }
                heard |= 1 << tales.pieceAt(tale, i);
            }
        }
    }

    /** What houses KNOW and the SEED, what of them can be undone, and IMAGES of them. */
    private static final class Now {
        private static final int MOST_KEPT = 16;
        private static final int MOST_IMAGES = 3;
        /** What is kept of NOW is one number: the SEED stands above what houses KNOW. */
        private static final int SEED_BITS_FROM = 8 * MOST_HOUSES;

        long knows;
        int seed;
        int keptMany;
        int imageMany;
        private int houses;
        private final long[] kept = new long[MOST_KEPT];
        private final long[] images = new long[MOST_IMAGES];

        void begin(Terrace of) {
            houses = of.houses;
            knows = 0;
            for (int h = 0; h < houses; h++) {
                knows = withMore(knows, h, of.heard[h]);
            }
            seed = 0;
            keptMany = 0;
            imageMany = 0;
        }

        int knownBy(int h) {
            return partOf(knows, h);
        }

        boolean isKnown(int h, int p) {
            return (knownBy(h) >> p & 1) != 0;
        }

        int knownByAny(int set) {
            int bits = 0;
            for (int h = 0; h < houses; h++) {
                if ((set >> h & 1) != 0) {
                    bits |= knownBy(h);
                }
            }
            return bits;
        }

        int whoKnow(int p) {
            int bits = 0;
            for (int h = 0; h < houses; h++) {
                if (isKnown(h, p)) {
                    bits |= 1 << h;
                }
            }
            return bits;
        }

        /** Ahead of each ACT; the oldest gives way. */
        void keep() {
            if (keptMany >= MOST_KEPT) {
                System.arraycopy(kept, 1, kept, 0, MOST_KEPT - 1);
                keptMany = MOST_KEPT - 1;
            }
            kept[keptMany] = packed();
            keptMany++;
        }

        boolean undoLatest() {
            if (keptMany <= 0) {
                return false;
            }
            keptMany--;
            unpack(kept[keptMany]);
            return true;
        }

        int takeImage() {
            if (imageMany >= MOST_IMAGES) {
                return NONE;
            }
            images[imageMany] = packed();
            imageMany++;
            return imageMany - 1;
        }

        boolean goBack(int image) {
            if (image < 0 || image >= imageMany) {
                return false;
            }
            unpack(images[image]);
            keptMany = 0;
            return true;
        }

        private long packed() {
            return (long) seed << SEED_BITS_FROM | knows;
        }

        private void unpack(long all) {
            seed = (int) (all >> SEED_BITS_FROM);
            knows = all & (1L << SEED_BITS_FROM) - 1;
        }
    }
}
