import java.util.Arrays;

/**
 * One piece sent round: houses measure the same pieces, and what they told is compared, joined to
 * one number, judged and taken apart, all as it was known on a day.
 *
 * <p>Every row is made when the object is made; no later call makes an object.
 */
public final class SentRound {
    public static final int NONE = -1, BAD = -2, NOT = -3, FULL = -4;

    private static final int LAST_DAY = 399;
    private static final int LONGEST_PASS = 100;
    private static final int PIECES = 4;
    private static final int HOUSES = 14;
    private static final int WAYS = 2;
    private static final int READINGS = 150;
    private static final int READINGS_OF_ONE = 8;
    private static final int MOST_VALUE = 20000;
    private static final int MOST_DOUBT = 1000;
    private static final int FIRST_DOUBT = 10;
    private static final int MOST_FACTOR = 5;
    private static final int RULES = 4;
    private static final int MOST_BYTES = 60;
    private static final int SHEETS = 4;
    private static final int TYPES = 3;
    private static final int MOST_ITEMS = 60;
    private static final int ITEMS_OF_A_READING = 4;

    private static final int NO_INT = Integer.MIN_VALUE;
    private static final int NOT_INT = Integer.MIN_VALUE + 1;
    private static final int NOTHING_ABOUT = -30000;

    private final Book book;
    private final Reduction reduction;
    private final Agreement agreement;
    private final Chains chains;
    private final OneNumber oneNumber;
    private final Repeats repeats;
    private final Dealings dealings;
    private final DoubtText text;
    private final Sheets sheets;

    public SentRound() {
        book = new Book();
        reduction = new Reduction(book);
        agreement = new Agreement(book, reduction);
        chains = new Chains(book, reduction);
        oneNumber = new OneNumber(book, reduction);
        repeats = new Repeats(book, reduction);
        dealings = new Dealings(book, reduction);
        text = new DoubtText();
        sheets = new Sheets();
    }

    // ---- houses, readings

    public int pass(int n) {
        if (n < 1 || n > LONGEST_PASS || n > LAST_DAY - book.day) {
            return BAD;
        }
        book.day += n;
        return book.day;
    }

    public int house(int way) {
        if (way < 0 || way >= WAYS) {
            return BAD;
        }
        if (book.houses >= HOUSES) {
            return FULL;
        }
        return book.addHouse(way);
    }

    public int doubt(int house, int d) {
        if (noHouse(house) || d < 1 || d > MOST_DOUBT) {
            return BAD;
        }
        return book.changeDoubt(house, d);
    }

    public int reading(int house, int piece, int on, int value) {
        return tell(house, piece, on, value);
    }

    public int read(int s) {
        if (noSheet(s)) {
            return BAD;
        }
        if (sheets.isLost(s)) {
            return sheets.find(Sheets.NULL);
        }
        int[] row = sheets.rows[s];
        int whole = sheets.sizes[s] / ITEMS_OF_A_READING;
        for (int taken = 0; taken < whole; taken++) {
            int at = taken * ITEMS_OF_A_READING;
            if (tell(row[at], row[at + 1], row[at + 2], row[at + 3]) < 0) {
                return taken;
            }
        }
        return whole;
    }

    public int takeBack(int reading) {
        if (noReading(reading)) {
            return BAD;
        }
        if (book.backOn[reading] != NONE) {
            return NOT;
        }
        book.backOn[reading] = book.day;
        reduction.renew(book.ofPiece[reading]);
        return 1;
    }

    public int about(int reading, int what) {
        if (noReading(reading)) {
            return NOTHING_ABOUT;
        }
        switch (what) {
            case 0:
                return book.ofHouse[reading];
            case 1:
                return book.ofPiece[reading];
            case 2:
                return book.on[reading];
            case 3:
                return book.value[reading];
            case 4:
                return book.toldOn[reading];
            case 5:
                return book.backOn[reading];
            case 6:
                return book.isKnown(reading) ? 1 : 0;
            default:
                return NOTHING_ABOUT;
        }
    }

    public int asOf(int day) {
        if (day != NONE && (day < 0 || day > book.day)) {
            return BAD;
        }
        int before = book.lookedAt;
        book.lookedAt = day;
        for (int piece = 0; piece < PIECES; piece++) {
            reduction.renew(piece);
        }
        return before;
    }

    public int factor(int k) {
        if (k < 1 || k > MOST_FACTOR) {
            return BAD;
        }
        return agreement.changeFactor(k);
    }

    // ---- drift, what is told

    public int drift(int piece, int day) {
        if (noPiece(piece) || day < 0 || day > LAST_DAY) {
            return NO_INT;
        }
        return reduction.driftOn(piece, day);
    }

    public int many(int house, int piece) {
        if (noHouse(house) || noPiece(piece)) {
            return BAD;
        }
        return reduction.known[piece][house];
    }

    public int told(int house, int piece) {
        if (noHouse(house) || noPiece(piece)) {
            return NO_INT;
        }
        return reduction.takesPart(house, piece) ? reduction.mean[piece][house] : NOT_INT;
    }

    // ---- agreeing, chains

    public int agree(int a, int b, int piece) {
        if (noHouse(a) || noHouse(b) || a == b || noPiece(piece)) {
            return BAD;
        }
        if (!reduction.takesPart(a, piece) || !reduction.takesPart(b, piece)) {
            return NOT;
        }
        return agreement.holds(a, b, piece) ? 1 : 0;
    }

    public int agreeing(int piece) {
        if (noPiece(piece)) {
            return BAD;
        }
        return agreement.mostOf(piece);
    }

    public int common(int piece, int what) {
        if (noPiece(piece) || what < 0 || what > 1) {
            return NO_INT;
        }
        agreement.meet(piece);
        if (what == 0) {
            return agreement.meeting;
        }
        return agreement.meeting == 0 ? NOT_INT : agreement.meetingPoint;
    }

    public int chain(int from, int to) {
        if (noHouse(from) || noHouse(to) || from == to) {
            return BAD;
        }
        chains.reckonTo(to);
        return chains.cost[from];
    }

    public int via(int from, int to) {
        if (noHouse(from) || noHouse(to) || from == to) {
            return BAD;
        }
        chains.reckonTo(to);
        return chains.nextFrom(from);
    }

    // ---- one number, marks

    public long number(int piece, int rule, int what) {
        if (noPiece(piece) || rule < 0 || rule >= RULES || what < 0 || what > 1) {
            return refusal(BAD);
        }
        if (!oneNumber.reckonBy(rule, piece)) {
            return refusal(NOT);
        }
        return oneNumber.answer.side(what);
    }

    public int mark(int house, int piece) {
        if (noHouse(house) || noPiece(piece)) {
            return NO_INT;
        }
        return reduction.takesPart(house, piece) ? oneNumber.markOf(house, piece) : NOT_INT;
    }

    public int judged(int house, int piece) {
        if (noHouse(house) || noPiece(piece)) {
            return BAD;
        }
        if (!reduction.takesPart(house, piece)) {
            return NOT;
        }
        int amount = Math.abs(oneNumber.markOf(house, piece));
        if (amount <= OneNumber.GOOD_MARK) {
            return 0;
        }
        return amount > OneNumber.DOUBTFUL_MARK ? 2 : 1;
    }

    public int run(int house) {
        if (noHouse(house)) {
            return BAD;
        }
        return oneNumber.longestRun(house);
    }

    // ---- repeats, parts

    public long within(int house, int piece, int what) {
        if (noHouse(house) || noPiece(piece) || what < 0 || what > 1) {
            return refusal(BAD);
        }
        if (!repeats.reckonWithin(house, piece)) {
            return refusal(NOT);
        }
        return repeats.answer.side(what);
    }

    public int widest(int piece) {
        if (noPiece(piece)) {
            return BAD;
        }
        repeats.gather(piece);
        return repeats.widestOf(piece);
    }

    public long share(int piece, int what) {
        if (noPiece(piece) || what < 0 || what > 1) {
            return refusal(BAD);
        }
        if (!repeats.reckonShare(piece)) {
            return refusal(NOT);
        }
        return repeats.answer.side(what);
    }

    public long parts(int piece, int part, int what) {
        if (noPiece(piece) || part < 0 || part > 1 || what < 0 || what > 1) {
            return refusal(BAD);
        }
        if (!repeats.reckonPart(piece, part)) {
            return refusal(NOT);
        }
        return repeats.answer.side(what);
    }

    // ---- ways

    public int ways(int piece, int what) {
        if (noPiece(piece) || what < 0 || what > 2) {
            return BAD;
        }
        dealings.gather(piece);
        if (what < WAYS) {
            return dealings.ofWay[what];
        }
        if (dealings.ofWay[0] == 0 || dealings.ofWay[1] == 0) {
            return NOT;
        }
        return dealings.houses > Dealings.MOST ? FULL : dealings.chance();
    }

    public long score(int piece) {
        if (noPiece(piece)) {
            return Long.MIN_VALUE;
        }
        dealings.gather(piece);
        return dealings.total;
    }

    // ---- texts

    public int type(int b) {
        if (b < 0 || b > 255) {
            return BAD;
        }
        if (text.length >= MOST_BYTES) {
            return FULL;
        }
        return text.append(b);
    }

    public int wipe() {
        int before = text.length;
        text.length = 0;
        return before;
    }

    public int fault() {
        return text.firstFault();
    }

    public int reckon() {
        return text.firstFault() == NONE ? text.doubtOfSquare() : NOT;
    }

    public int claim(int house) {
        if (noHouse(house)) {
            return BAD;
        }
        if (text.firstFault() != NONE) {
            return NOT;
        }
        return book.changeDoubt(house, text.doubtOfSquare());
    }

    // ---- sheets

    public int sheet(int s, int type, int n) {
        if (noSheet(s) || noType(type) || n > MOST_ITEMS) {
            return BAD;
        }
        if (n < 0) {
            return sheets.find(Sheets.SIZE);
        }
        return sheets.make(s, type, n);
    }

    public int lose(int s) {
        if (noSheet(s)) {
            return BAD;
        }
        if (sheets.isLost(s)) {
            return sheets.find(Sheets.NULL);
        }
        sheets.types[s] = Sheets.LOST;
        return sheets.sizes[s];
    }

    public int put(int s, int type, int i, int v) {
        if (noSheet(s) || noType(type)) {
            return BAD;
        }
        int finding = sheets.against(s, type, i);
        if (finding != 0) {
            return sheets.find(finding);
        }
        sheets.store(s, i, v);
        return 1;
    }

    public int get(int s, int type, int i) {
        if (noSheet(s) || noType(type)) {
            return NO_INT;
        }
        int finding = sheets.against(s, type, i);
        if (finding != 0) {
            sheets.find(finding);
            return NO_INT;
        }
        return sheets.rows[s][i];
    }

    public int copy(int s, int i, int t, int j, int n) {
        if (noSheet(s) || noSheet(t)) {
            return BAD;
        }
        if (sheets.isLost(s) || sheets.isLost(t)) {
            return sheets.find(Sheets.NULL);
        }
        if (sheets.types[s] != sheets.types[t]) {
            return sheets.find(Sheets.STORE);
        }
        if (!sheets.holds(s, i, n) || !sheets.holds(t, j, n)) {
            return sheets.find(Sheets.INDEX);
        }
        System.arraycopy(sheets.rows[s], i, sheets.rows[t], j, n);
        return 1;
    }

    public int write(int piece, int s) {
        if (noPiece(piece) || noSheet(s)) {
            return BAD;
        }
        if (sheets.isLost(s)) {
            return sheets.find(Sheets.NULL);
        }
        int items = Math.min(book.houses, sheets.sizes[s]);
        for (int house = 0; house < items; house++) {
            sheets.store(s, house, reduction.mean[piece][house]);
        }
        return items;
    }

    public int count(int what) {
        switch (what) {
            case 0:
                return book.day;
            case 1:
                return book.houses;
            case 2:
                return book.readings;
            case 3:
                return book.knownReadings();
            case 4:
            case 5:
            case 6:
            case 7:
                return Integer.bitCount(reduction.takingPart(what - 4));
            case 8:
                return sheets.latest;
            case 9:
                return text.length;
            case 10:
                return agreement.factor;
            default:
                return BAD;
        }
    }

    public long digest() {
        long h = 17;
        for (int what = 0; what <= 7; what++) {
            h = 31 * h + count(what);
        }
        h = 31 * h + count(9);
        h = 31 * h + count(10);
        for (int house = 0; house < book.houses; house++) {
            h = 31 * h + book.doubt[house];
            for (int piece = 0; piece < PIECES; piece++) {
                h = 31 * h + told(house, piece);
            }
        }
        for (int piece = 0; piece < PIECES; piece++) {
            h = digestPiece(h, piece);
        }
        return 31 * h + fault();
    }

    private long digestPiece(long before, int piece) {
        long h = 31 * before + agreeing(piece);
        h = 31 * h + common(piece, 0);
        for (int rule = 0; rule < RULES; rule++) {
            boolean some = oneNumber.reckonBy(rule, piece);
            h = 31 * h + (some ? oneNumber.answer.above : NOT);
            h = 31 * h + (some ? oneNumber.answer.below : NOT);
        }
        return 31 * h + widest(piece);
    }

    private int tell(int house, int piece, int on, int value) {
        if (noHouse(house) || noPiece(piece) || on < 0 || on > book.day
                || value < -MOST_VALUE || value > MOST_VALUE) {
            return BAD;
        }
        if (book.readings >= READINGS || book.readingsOf(house, piece) >= READINGS_OF_ONE) {
            return FULL;
        }
        int number = book.addReading(house, piece, on, value);
        reduction.renew(piece);
        return number;
    }

    private boolean noHouse(int house) {
        return house < 0 || house >= book.houses;
    }

    private boolean noReading(int reading) {
        return reading < 0 || reading >= book.readings;
    }

    private static boolean noPiece(int piece) {
        return piece < 0 || piece >= PIECES;
    }

    private static boolean noSheet(int s) {
        return s < 0 || s >= SHEETS;
    }

    private static boolean noType(int type) {
        return type < 0 || type >= TYPES;
    }

    private static long refusal(int answer) {
        return Long.MIN_VALUE - answer;
    }

    private static long nearest(long above, long below) {
        return below > 0 ? Math.floorDiv(2 * above + below, 2 * below) : 0;
    }

    /** Puts x into the first 'many' of a row that lie in order, if the row has room for one more. */
    private static void putInOrder(long[] row, int many, long x) {
        if (many < 0 || many >= row.length) {
            return;
        }
        int at = many;
        while (at > 0 && row[at - 1] > x) {
            row[at] = row[at - 1];
            at--;
        }
        row[at] = x;
    }

    /** A fraction in lowest terms. */
    private static final class Fraction {
        private static final int MOST_DIVISIONS = 100;

        long above;
        long below = 1;

        void become(long newAbove, long newBelow) {
            long shared = greatestShared(Math.abs(newAbove), newBelow);
            if (newBelow < 1 || shared < 1) {
                above = 0;
                below = 1;
            } else {
                above = newAbove / shared;
                below = newBelow / shared;
            }
        }

        long side(int what) {
            return what == 0 ? above : below;
        }

        private static long greatestShared(long a, long b) {
            long x = a;
            long y = b;
            for (int i = 0; i < MOST_DIVISIONS && y != 0; i++) {
                long rest = x % y;
                x = y;
                y = rest;
            }
            return x;
        }
    }

    /** The day, the houses and the readings, and which readings are known. */
    private static final class Book {
        int day;
        int lookedAt = NONE;
        int houses;
        final int[] way = new int[HOUSES];
        final int[] doubt = new int[HOUSES];
        int readings;
        final int[] ofHouse = new int[READINGS];
        final int[] ofPiece = new int[READINGS];
        final int[] on = new int[READINGS];
        final int[] value = new int[READINGS];
        final int[] toldOn = new int[READINGS];
        final int[] backOn = new int[READINGS];

        int addHouse(int itsWay) {
            way[houses] = itsWay;
            doubt[houses] = FIRST_DOUBT;
            houses++;
            return houses - 1;
        }

        int changeDoubt(int house, int d) {
            int before = doubt[house];
            doubt[house] = d;
            return before;
        }

        int addReading(int house, int piece, int readOn, int itsValue) {
            ofHouse[readings] = house;
            ofPiece[readings] = piece;
            on[readings] = readOn;
            value[readings] = itsValue;
            toldOn[readings] = day;
            backOn[readings] = NONE;
            readings++;
            return readings - 1;
        }

        int readingsOf(int house, int piece) {
            int found = 0;
            for (int r = 0; r < readings; r++) {
                if (ofHouse[r] == house && ofPiece[r] == piece) {
                    found++;
                }
            }
            return found;
        }

        boolean isKnown(int reading) {
            int upTo = lookedAt == NONE ? day : lookedAt;
            int back = backOn[reading];
            return toldOn[reading] <= upTo && (back == NONE || back > upTo);
        }

        boolean isKnownOf(int reading, int piece) {
            return ofPiece[reading] == piece && isKnown(reading);
        }

        int knownReadings() {
            int found = 0;
            for (int r = 0; r < readings; r++) {
                if (isKnown(r)) {
                    found++;
                }
            }
            return found;
        }

        int squaredDoubt(int house) {
            return doubt[house] * doubt[house];
        }
    }

    /**
     * The drift of the pieces and what the houses told. It is renewed by whatever changes which
     * readings of a piece are known; the passing of days alone never does.
     */
    private static final class Reduction {
        private static final int PILOT = 0;

        private final Book book;
        private final int[] points = new int[PIECES];
        private final int[][] pointDay = new int[PIECES][READINGS_OF_ONE];
        private final int[][] pointSum = new int[PIECES][READINGS_OF_ONE];
        private final int[][] pointMany = new int[PIECES][READINGS_OF_ONE];
        private final long[] sum = new long[HOUSES];
        final int[] reduced = new int[READINGS];
        final int[][] known = new int[PIECES][HOUSES];
        final int[][] mean = new int[PIECES][HOUSES];

        Reduction(Book book) {
            this.book = book;
        }

        boolean takesPart(int house, int piece) {
            return known[piece][house] > 0;
        }

        int takingPart(int piece) {
            int bits = 0;
            for (int house = 0; house < book.houses; house++) {
                if (takesPart(house, piece)) {
                    bits |= 1 << house;
                }
            }
            return bits;
        }

        void renew(int piece) {
            findPoints(piece);
            int[] many = known[piece];
            Arrays.fill(many, 0);
            Arrays.fill(sum, 0L);
            for (int r = 0; r < book.readings; r++) {
                if (book.isKnownOf(r, piece)) {
                    reduced[r] = 1000 * book.value[r] - driftOn(piece, book.on[r]);
                    sum[book.ofHouse[r]] += reduced[r];
                    many[book.ofHouse[r]]++;
                }
            }
            for (int house = 0; house < HOUSES; house++) {
                mean[piece][house] = (int) nearest(sum[house], many[house]);
            }
        }

        private void findPoints(int piece) {
            points[piece] = 0;
            for (int r = 0; r < book.readings; r++) {
                if (book.ofHouse[r] == PILOT && book.isKnownOf(r, piece)) {
                    addToPoint(piece, book.on[r], book.value[r]);
                }
            }
        }

        private void addToPoint(int piece, int day, int value) {
            int[] days = pointDay[piece];
            int at = 0;
            while (at < points[piece] && days[at] < day) {
                at++;
            }
            if (at == points[piece] || days[at] != day) {
                if (points[piece] >= days.length) {
                    return;
                }
                openPoint(piece, at, day);
            }
            pointSum[piece][at] += value;
            pointMany[piece][at]++;
        }

        private void openPoint(int piece, int at, int day) {
            for (int i = points[piece]; i > at; i--) {
                pointDay[piece][i] = pointDay[piece][i - 1];
                pointSum[piece][i] = pointSum[piece][i - 1];
                pointMany[piece][i] = pointMany[piece][i - 1];
            }
            pointDay[piece][at] = day;
            pointSum[piece][at] = 0;
            pointMany[piece][at] = 0;
            points[piece]++;
        }

        int driftOn(int piece, int day) {
            int[] days = pointDay[piece];
            int behind = 0;
            while (behind < points[piece] && days[behind] <= day) {
                behind++;
            }
            if (behind == 0) {
                return 0;
            }
            if (behind == points[piece]) {
                return driftBetween(piece, behind - 1, behind - 1, 1, 0);
            }
            int span = days[behind] - days[behind - 1];
            return driftBetween(piece, behind - 1, behind, span, day - days[behind - 1]);
        }

        /** The drift 'gone' of 'span' days behind the left point, all over one divisor. */
        private int driftBetween(int piece, int left, int right, long span, long gone) {
            int[] sums = pointSum[piece];
            int[] manies = pointMany[piece];
            long leftMany = manies[left];
            long rightMany = manies[right];
            long firstMany = manies[0];
            long here = sums[left] * rightMany * (span - gone) + sums[right] * leftMany * gone;
            long below = leftMany * rightMany * span;
            long above = here * firstMany - sums[0] * below;
            return (int) nearest(1000 * above, below * firstMany);
        }
    }

    /** Who agrees with whom, pair by pair and at one point. */
    private static final class Agreement {
        private final Book book;
        private final Reduction reduction;
        private final int[] withHouse = new int[HOUSES];
        int factor = 2;
        int meeting;
        int meetingPoint;

        Agreement(Book book, Reduction reduction) {
            this.book = book;
            this.reduction = reduction;
        }

        int changeFactor(int k) {
            int before = factor;
            factor = k;
            return before;
        }

        boolean holds(int a, int b, int piece) {
            long apart = reduction.mean[piece][a] - reduction.mean[piece][b];
            long doubts = book.squaredDoubt(a) + book.squaredDoubt(b);
            return apart * apart <= 1000000L * factor * factor * doubts;
        }

        int mostOf(int piece) {
            int all = reduction.takingPart(piece);
            for (int house = 0; house < book.houses; house++) {
                withHouse[house] = (all >> house & 1) == 1 ? agreeingWith(house, piece, all) : 0;
            }
            return widestCircle(withHouse, book.houses - 1, all, 0, 0);
        }

        private int agreeingWith(int house, int piece, int all) {
            int bits = 0;
            for (int other = 0; other < book.houses; other++) {
                if (other != house && (all >> other & 1) == 1 && holds(house, other, piece)) {
                    bits |= 1 << other;
                }
            }
            return bits;
        }

        /**
         * The most houses of 'open' and 'chosen' together, where more than in 'best'. From the
         * highest house down, each is first left out and then taken: so of circles that are as
         * large the least as bits is met first, and only a larger one takes its place.
         */
        private static int widestCircle(int[] withHouse, int house, int open, int chosen, int best) {
            int reach = Integer.bitCount(open) + Integer.bitCount(chosen);
            if (reach <= Integer.bitCount(best)) {
                return best;
            }
            if (house < 0 || house >= withHouse.length) {
                return chosen;
            }
            int bit = 1 << house;
            if ((open & bit) == 0) {
                return widestCircle(withHouse, house - 1, open, chosen, best);
            }
            int without = widestCircle(withHouse, house - 1, open & ~bit, chosen, best);
            return widestCircle(withHouse, house - 1, open & withHouse[house], chosen | bit, without);
        }

        /** The least number that most spans hold is where one of them begins. */
        void meet(int piece) {
            meeting = 0;
            meetingPoint = 0;
            for (int house = 0; house < book.houses; house++) {
                if (reduction.takesPart(house, piece)) {
                    int point = reduction.mean[piece][house] - reachOf(house);
                    int there = spansAt(point, piece);
                    if (there > meeting || there == meeting && point < meetingPoint) {
                        meeting = there;
                        meetingPoint = point;
                    }
                }
            }
        }

        private int spansAt(int point, int piece) {
            int there = 0;
            for (int house = 0; house < book.houses; house++) {
                int apart = Math.abs(reduction.mean[piece][house] - point);
                if (reduction.takesPart(house, piece) && apart <= reachOf(house)) {
                    there++;
                }
            }
            return there;
        }

        private int reachOf(int house) {
            return 1000 * factor * book.doubt[house];
        }
    }

    /** The least costs from all houses to one of them. */
    private static final class Chains {
        private final Book book;
        private final Reduction reduction;
        private final int[] neighbours = new int[HOUSES];
        final int[] cost = new int[HOUSES];

        Chains(Book book, Reduction reduction) {
            this.book = book;
            this.reduction = reduction;
        }

        void reckonTo(int to) {
            findNeighbours();
            Arrays.fill(cost, NONE);
            cost[to] = book.squaredDoubt(to);
            int settled = 0;
            for (int round = 0; round < book.houses; round++) {
                int step = cheapestBeside(settled);
                if (step == NONE) {
                    return;
                }
                settled |= 1 << step;
                costBy(step);
            }
        }

        private void findNeighbours() {
            Arrays.fill(neighbours, 0);
            for (int piece = 0; piece < PIECES; piece++) {
                int all = reduction.takingPart(piece);
                for (int house = 0; house < book.houses; house++) {
                    if ((all >> house & 1) == 1) {
                        neighbours[house] |= all & ~(1 << house);
                    }
                }
            }
        }

        private int cheapestBeside(int settled) {
            int least = NONE;
            for (int house = 0; house < book.houses; house++) {
                boolean open = cost[house] != NONE && (settled >> house & 1) == 0;
                if (open && (least == NONE || cost[house] < cost[least])) {
                    least = house;
                }
            }
            return least;
        }

        private void costBy(int step) {
            for (int house = 0; house < book.houses; house++) {
                if ((neighbours[step] >> house & 1) == 1) {
                    int through = cost[step] + book.squaredDoubt(house);
                    if (cost[house] == NONE || through < cost[house]) {
                        cost[house] = through;
                    }
                }
            }
        }

        int nextFrom(int from) {
            for (int house = 0; house < book.houses; house++) {
                boolean joined = (neighbours[from] >> house & 1) == 1 && cost[house] != NONE;
                if (joined && cost[house] + book.squaredDoubt(from) == cost[from]) {
                    return house;
                }
            }
            return NONE;
        }
    }

    /** One number for all that was told of a piece, by four rules, and the marks by the last. */
    private static final class OneNumber {
        static final int GOOD_MARK = 200;
        static final int DOUBTFUL_MARK = 300;
        private static final long WHOLE_WEIGHT = 100000000L;
        private static final int STEPS = 10;
        private static final int MOST_PAIRS = HOUSES * (HOUSES + 1) / 2;

        private final Book book;
        private final Reduction reduction;
        private final long[] row = new long[HOUSES];
        private final long[] other = new long[HOUSES];
        private final long[] pairs = new long[MOST_PAIRS];
        private int many;
        final Fraction answer = new Fraction();

        OneNumber(Book book, Reduction reduction) {
            this.book = book;
            this.reduction = reduction;
        }

        /** False, if no house takes part. */
        boolean reckonBy(int rule, int piece) {
            gather(piece);
            if (many == 0) {
                return false;
            }
            if (rule == 0) {
                answer.become(twiceMiddle(row, many), 2);
            } else if (rule == 1) {
                byPairs();
            } else if (rule == 2) {
                byWeights(piece);
            } else {
                answer.become(bySteps(), 1);
            }
            return true;
        }

        private void gather(int piece) {
            many = 0;
            for (int house = 0; house < book.houses; house++) {
                if (reduction.takesPart(house, piece)) {
                    putInOrder(row, many, reduction.mean[piece][house]);
                    many++;
                }
            }
        }

        private static long twiceMiddle(long[] ordered, int size) {
            return size > 0 ? ordered[(size - 1) / 2] + ordered[size / 2] : 0;
        }

        private void byPairs() {
            int found = 0;
            for (int i = 0; i < many; i++) {
                for (int j = 0; j <= i; j++) {
                    putInOrder(pairs, found, row[i] + row[j]);
                    found++;
                }
            }
            answer.become(twiceMiddle(pairs, found), 4);
        }

        private void byWeights(int piece) {
            long above = 0;
            long below = 0;
            for (int house = 0; house < book.houses; house++) {
                int squared = book.squaredDoubt(house);
                if (squared > 0 && reduction.takesPart(house, piece)) {
                    long weight = WHOLE_WEIGHT / squared;
                    above += weight * reduction.mean[piece][house];
                    below += weight;
                }
            }
            answer.become(above, below);
        }

        private long bySteps() {
            long x = Math.floorDiv(twiceMiddle(row, many), 2L);
            for (int i = 0; i < many; i++) {
                putInOrder(other, i, Math.abs(row[i] - x));
            }
            long s = twiceMiddle(other, many) * 1483 / 2000;
            for (int step = 0; step < STEPS; step++) {
                x = clippedMean(x, 3 * s / 2);
                s = root(clippedSpread(x));
            }
            return x;
        }

        private long clippedMean(long x, long reach) {
            long sum = 0;
            for (int i = 0; i < many; i++) {
                other[i] = Math.max(x - reach, Math.min(x + reach, row[i]));
                sum += other[i];
            }
            return many > 0 ? Math.floorDiv(sum, (long) many) : 0;
        }

        private long clippedSpread(long x) {
            if (many < 2) {
                return 0;
            }
            long squares = 0;
            for (int i = 0; i < many; i++) {
                squares += (other[i] - x) * (other[i] - x);
            }
            return squares / (many - 1) * 1286 / 1000;
        }

        private static long root(long q) {
            long root = 0;
            for (int place = 31; place >= 0; place--) {
                long trial = root | 1L << place;
                if (trial > 0 && trial <= q / trial) {
                    root = trial;
                }
            }
            return root;
        }

        /** Of a house that takes part. */
        int markOf(int house, int piece) {
            gather(piece);
            long below = 1000L * book.doubt[house];
            return below > 0 ? (int) ((reduction.mean[piece][house] - bySteps()) * 100 / below) : 0;
        }

        int longestRun(int house) {
            int longest = 0;
            int length = 0;
            int side = 0;
            for (int piece = 0; piece < PIECES; piece++) {
                if (reduction.takesPart(house, piece)) {
                    int now = Integer.signum(markOf(house, piece));
                    length = now == 0 ? 0 : now == side ? length + 1 : 1;
                    side = now;
                    longest = Math.max(longest, length);
                }
            }
            return longest;
        }
    }

    /** What lies within the houses that read a piece more than once, and what between them. */
    private static final class Repeats {
        /** A multiple of n (n - 1) for all n from 2 to 8. */
        private static final int SCALE = 840;

        private final Book book;
        private final Reduction reduction;
        private final long[] sum = new long[HOUSES];
        private final long[] squares = new long[HOUSES];
        final Fraction answer = new Fraction();

        Repeats(Book book, Reduction reduction) {
            this.book = book;
            this.reduction = reduction;
        }

        void gather(int piece) {
            Arrays.fill(sum, 0L);
            Arrays.fill(squares, 0L);
            for (int r = 0; r < book.readings; r++) {
                if (book.isKnownOf(r, piece)) {
                    long whole = nearest(reduction.reduced[r], 1000);
                    sum[book.ofHouse[r]] += whole;
                    squares[book.ofHouse[r]] += whole * whole;
                }
            }
        }

        boolean reckonWithin(int house, int piece) {
            long many = reduction.known[piece][house];
            if (many < 2) {
                return false;
            }
            gather(piece);
            answer.become(spread(house, many), many * (many - 1));
            return true;
        }

        /** The squares of differences to the mean, together, times how many there are. */
        private long spread(int house, long many) {
            return many * squares[house] - sum[house] * sum[house];
        }

        /** SCALE times what lies within a house; NONE, if it has no two readings. */
        private long scaledWithin(int house, int piece) {
            int many = reduction.known[piece][house];
            return many < 2 ? NONE : spread(house, many) * (SCALE / (many * (many - 1)));
        }

        int widestOf(int piece) {
            int widest = NONE;
            long most = NONE;
            for (int house = 0; house < book.houses; house++) {
                long now = scaledWithin(house, piece);
                if (now > most) {
                    widest = house;
                    most = now;
                }
            }
            return widest;
        }

        boolean reckonShare(int piece) {
            gather(piece);
            int widest = widestOf(piece);
            if (widest == NONE) {
                return false;
            }
            long all = 0;
            for (int house = 0; house < book.houses; house++) {
                all += Math.max(0L, scaledWithin(house, piece));
            }
            answer.become(scaledWithin(widest, piece), all);
            return true;
        }

        /** How many readings each house that takes part has; 0, if they have not as many. */
        private int likeMany(int piece) {
            int many = 0;
            for (int house = 0; house < book.houses; house++) {
                int now = reduction.known[piece][house];
                if (now > 0 && many > 0 && now != many) {
                    return 0;
                }
                many = Math.max(many, now);
            }
            return many;
        }

        boolean reckonPart(int piece, int part) {
            long n = likeMany(piece);
            long houses = Integer.bitCount(reduction.takingPart(piece));
            if (n < 2 || houses < 2) {
                return false;
            }
            gather(piece);
            long inside = 0;
            long sums = 0;
            long sumSquares = 0;
            for (int house = 0; house < book.houses; house++) {
                inside += spread(house, n);
                sums += sum[house];
                sumSquares += sum[house] * sum[house];
            }
            if (part == 0) {
                answer.become(inside, houses * n * (n - 1));
            } else {
                long apart = (houses * sumSquares - sums * sums) * (n - 1) - inside * (houses - 1);
                answer.become(Math.max(0L, apart), n * n * (n - 1) * houses * (houses - 1));
            }
            return true;
        }
    }

    /** The two ways of measuring, and all dealings of the houses to them. */
    private static final class Dealings {
        static final int MOST = 13;
        private static final int MILLION = 1000000;

        private final Book book;
        private final Reduction reduction;
        private final int[] row = new int[HOUSES];
        final int[] ofWay = new int[WAYS];
        int houses;
        long total;

        Dealings(Book book, Reduction reduction) {
            this.book = book;
            this.reduction = reduction;
        }

        void gather(int piece) {
            Arrays.fill(ofWay, 0);
            houses = 0;
            total = 0;
            for (int house = 0; house < book.houses; house++) {
                if (reduction.takesPart(house, piece)) {
                    int told = reduction.mean[piece][house];
                    row[houses] = told;
                    houses++;
                    ofWay[book.way[house]]++;
                    total += book.way[house] == 1 ? told : 0;
                }
            }
        }

        int chance() {
            long all = choices(houses, ofWay[1]);
            long reaching = dealt(row, houses, ofWay[1], total);
            return all > 0 ? (int) (reaching * MILLION / all) : 0;
        }

        private static long choices(int from, int chosen) {
            long found = 1;
            for (int i = 1; i <= chosen; i++) {
                found = found * (from - chosen + i) / i;
            }
            return found;
        }

        /** How many choices of 'left' of the first houses reach what is lacking. */
        private static int dealt(int[] row, int first, int left, long lacking) {
            if (left <= 0) {
                return lacking <= 0 ? 1 : 0;
            }
            if (first < left || first > row.length) {
                return 0;
            }
            return dealt(row, first - 1, left - 1, lacking - row[first - 1])
                    + dealt(row, first - 1, left, lacking);
        }
    }

    /** The text of a doubt. */
    private static final class DoubtText {
        private static final int MOST_FIGURES = 3;
        private static final int MOST_SIDE = 100000;
        private static final long SQUARE_SCALE = 10000;

        private final int[] bytes = new int[MOST_BYTES];
        private final Fraction part = new Fraction();
        private int at;
        private long square;
        int length;

        int append(int b) {
            bytes[length] = b;
            length++;
            return length;
        }

        /** Also reckons the square, as far as there is no fault. */
        int firstFault() {
            at = 0;
            square = 0;
            for (int parts = 0; parts <= MOST_BYTES; parts++) {
                int fault = faultOfPart();
                if (fault != NONE) {
                    return fault;
                }
                square += squareOfPart();
                if (at >= length) {
                    return NONE;
                }
                if (bytes[at] != '+') {
                    return at;
                }
                at++;
            }
            return at;
        }

        private int faultOfPart() {
            part.become(1, 1);
            int sign = '*';
            for (int numbers = 0; numbers <= MOST_BYTES; numbers++) {
                int first = at;
                int number = nextNumber();
                if (number == NONE || sign == '/' && number == 0) {
                    return first;
                }
                if (sign == '/') {
                    part.become(part.above, part.below * number);
                } else {
                    part.become(part.above * number, part.below);
                }
                if (part.above > MOST_SIDE || part.below > MOST_SIDE) {
                    return first;
                }
                if (at >= length || bytes[at] != '*' && bytes[at] != '/') {
                    return NONE;
                }
                sign = bytes[at];
                at++;
            }
            return at;
        }

        /** NONE, if no figure stands here. */
        private int nextNumber() {
            int number = NONE;
            for (int figures = 0; figures < MOST_FIGURES; figures++) {
                if (at >= length || bytes[at] < '0' || bytes[at] > '9') {
                    return number;
                }
                number = Math.max(number, 0) * 10 + bytes[at] - '0';
                at++;
            }
            return number;
        }

        private long squareOfPart() {
            long below = part.below * part.below;
            return below > 0 ? (part.above * part.above * SQUARE_SCALE + below - 1) / below : 0;
        }

        /** Of a text without a fault, whose square was reckoned just now. */
        int doubtOfSquare() {
            for (int doubt = 1; doubt < MOST_DOUBT; doubt++) {
                if (doubt * doubt * SQUARE_SCALE >= square) {
                    return doubt;
                }
            }
            return MOST_DOUBT;
        }
    }

    /** The sheets, and the latest finding. */
    private static final class Sheets {
        static final int NULL = 1;
        static final int INDEX = 2;
        static final int CAST = 3;
        static final int STORE = 4;
        static final int SIZE = 5;
        static final int LOST = -1;

        final int[][] rows = new int[SHEETS][MOST_ITEMS];
        final int[] types = new int[SHEETS];
        final int[] sizes = new int[SHEETS];
        int latest;

        Sheets() {
            Arrays.fill(types, LOST);
        }

        int find(int finding) {
            latest = finding;
            return -10 - finding;
        }

        boolean isLost(int s) {
            return types[s] == LOST;
        }

        int make(int s, int type, int n) {
            types[s] = type;
            sizes[s] = n;
            Arrays.fill(rows[s], 0);
            return n;
        }

        /** The finding against item i of a sheet, treated as of a type; 0, if there is none. */
        int against(int s, int type, int i) {
            if (isLost(s)) {
                return NULL;
            }
            if (types[s] != type) {
                return CAST;
            }
            return i < 0 || i >= sizes[s] ? INDEX : 0;
        }

        boolean holds(int s, int from, int n) {
            return from >= 0 && n >= 0 && from <= sizes[s] && n <= sizes[s] - from;
        }

        void store(int s, int i, int v) {
            int type = types[s];
            rows[s][i] = type == 0 ? (byte) v : type == 1 ? (short) v : v;
        }
    }
}
