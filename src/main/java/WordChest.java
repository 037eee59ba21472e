import java.util.Arrays;

/** A chest of codes; ../shared/DOC.md says what each call promises. */
public final class WordChest {
    public static final int UNKNOWN = -1, OUTSIDE = -2, STATE = -3, FULL = -4, NO = -5, NONE = -6, SPENT = -7;

    private static final int MOST_SIGNS = 4;
    private static final int MOST_THINGS = 24;
    private static final int LONGEST = 24;
    private static final int LINE_ROOM = 200;
    private static final int CHEST_ROOM = 8;
    private static final int DEAREST = 9;

    private static final int FREE = 0;
    private static final int BOUNDED = 1;
    private static final int ORDERED = 2;
    private static final int ENDED = 3;

    /** With unlike prices FREE is BUILT only up to these. */
    private static final int UNLIKE_DEAREST = 3;
    private static final int UNLIKE_THINGS = 8;

    /** Floats of one sign are ordered as their bits are: so the bits themselves are compared. */
    private static final int FLOAT_ONE = 0x3f800000;
    private static final int FLOAT_MILLION = 0x49742400;

    /** A cost that no way has. */
    private static final long ENDLESS = 1L << 60;

    /** How THE CODE AT HAND came to be. */
    private static final int MADE = 0;
    private static final int TOLD = 1;
    private static final int GROWING = 2;

    private final int[] prices = new int[MOST_SIGNS];
    private final int[] counts = new int[MOST_THINGS];
    private final int[] order = new int[MOST_THINGS];
    private final int[] grownCounts = new int[MOST_THINGS];
    private final int[] heardCounts = new int[MOST_THINGS];
    private final Line theLine = new Line();
    private final OpenRows open = new OpenRows();
    private final Code hand = new Code();
    private final Code spare = new Code();
    private final Code[] chest = new Code[CHEST_ROOM];
    private int signs;
    private int things;
    private int manner;
    private int breaker = NONE;
    private int breakerWith = NONE;

    /** The large rows are made only when a call first needs them, and then used again. */
    private LevelMaker levelMaker;
    private OrderMaker orderMaker;
    private StepFinder stepFinder;

    public WordChest() {
        for (int place = 0; place < CHEST_ROOM; place++) {
            chest[place] = new Code();
        }
    }

    // ---- 1 signs, things

    public int sign(int price) {
        if (price < 1 || price > DEAREST) {
            return OUTSIDE;
        }
        if (signs >= MOST_SIGNS) {
            return FULL;
        }
        prices[signs] = price;
        signs++;
        dropCode();
        theLine.size = 0;
        for (int place = 0; place < CHEST_ROOM; place++) {
            chest[place].begin(0);
        }
        return signs - 1;
    }

    public int thing(int count) {
        int whole = wholeOfFloat(count);
        if (whole < 1) {
            return OUTSIDE;
        }
        if (things >= MOST_THINGS) {
            return FULL;
        }
        counts[things] = whole;
        things++;
        dropCode();
        return things - 1;
    }

    public int count(int thing, int count) {
        if (!isThing(thing)) {
            return UNKNOWN;
        }
        int whole = wholeOfFloat(count);
        if (whole < 1) {
            return OUTSIDE;
        }
        int had = counts[thing];
        counts[thing] = whole;
        return had;
    }

    // ---- 2 codes

    public long build(int kind, int x) {
        if (!isKind(kind, x)) {
            return OUTSIDE;
        }
        if (!canBuild(kind)) {
            return STATE;
        }
        if (kind == FREE || kind == BOUNDED) {
            if (!makeByLevels(spare, counts, kind == BOUNDED ? x : 0)) {
                return NO;
            }
        } else if (kind == ORDERED) {
            orders().make(spare, counts, things, prices, signs);
        } else {
            makeEnded(spare, x);
        }
        handOver(spare);
        return costAtHand();
    }

    public int own() {
        if (!hasSignsAndThings()) {
            return STATE;
        }
        hand.begin(things);
        manner = TOLD;
        return things;
    }

    public int add(int thing, int sign) {
        if (!isThing(thing) || !isSign(sign)) {
            return UNKNOWN;
        }
        if (!hasCode() || manner != TOLD) {
            return STATE;
        }
        if (hand.sizes[thing] >= LONGEST) {
            return FULL;
        }
        hand.giveWord(thing, rowAndSign(hand.rows[thing], hand.sizes[thing], sign), hand.sizes[thing] + 1);
        return hand.sizes[thing];
    }

    public int holds(int kind, int x) {
        if (!isKind(kind, x)) {
            return OUTSIDE;
        }
        if (!hasCode()) {
            return STATE;
        }
        for (int i = 0; i < hand.number; i++) {
            boolean alone = breaksAlone(i, kind, x);
            int with = alone ? NONE : breaksWith(i, kind);
            if (alone || with != NONE) {
                breaker = i;
                breakerWith = with;
                return 0;
            }
        }
        return 1;
    }

    public int broken(int which) {
        if (which != 0 && which != 1) {
            return OUTSIDE;
        }
        return which == 0 ? breaker : breakerWith;
    }

    public long cost() {
        return hasCode() ? costAtHand() : STATE;
    }

    public long mean() {
        if (!hasCode()) {
            return STATE;
        }
        long sum = 0;
        for (int i = 0; i < things; i++) {
            sum += counts[i];
        }
        return sum < 1 ? STATE : bitsOfDouble((double) costAtHand() / (double) sum);
    }

    public int length(int thing) {
        if (!isThing(thing)) {
            return UNKNOWN;
        }
        return hasCode() ? hand.sizes[thing] : STATE;
    }

    public int word(int thing, int k) {
        if (!isThing(thing)) {
            return UNKNOWN;
        }
        if (!hasCode()) {
            return STATE;
        }
        return k < 0 || k >= hand.sizes[thing] ? NONE : signOfRow(hand.rows[thing], k);
    }

    public long room() {
        if (!hasCode() || signs < 1) {
            return STATE;
        }
        double sum = 0.0;
        for (int i = 0; i < hand.number; i++) {
            double share = 1.0;
            for (int k = 0; k < hand.sizes[i]; k++) {
                share = share / (double) signs;
            }
            sum = sum + share;
        }
        return bitsOfDouble(sum);
    }

    public int full() {
        if (!hasCode()) {
            return STATE;
        }
        if (!hand.isFree()) {
            return NO;
        }
        long taken = 0;
        for (int i = 0; i < hand.number; i++) {
            taken += rowsOfSize(LONGEST - hand.sizes[i]);
        }
        return taken == rowsOfSize(LONGEST) ? 1 : 0;
    }

    public int canon() {
        if (!hasCode()) {
            return STATE;
        }
        if (!makeCanon(spare)) {
            return NO;
        }
        handOver(spare);
        return 1;
    }

    public long node(int i, int j) {
        if (!isThing(i) || !isThing(j) || i > j) {
            return UNKNOWN;
        }
        if (signs < 2) {
            return STATE;
        }
        OrderMaker maker = orders();
        maker.weigh(counts, i, j, prices, signs);
        return maker.leastOf(i, j);
    }

    // ---- 3 the line

    public int write(int thing) {
        if (!isThing(thing)) {
            return UNKNOWN;
        }
        if (!hasCode()) {
            return STATE;
        }
        return theLine.writeWord(hand, thing) ? theLine.size : FULL;
    }

    public int put(int sign) {
        if (!isSign(sign)) {
            return UNKNOWN;
        }
        if (theLine.size >= LINE_ROOM) {
            return FULL;
        }
        theLine.putSign(sign);
        return theLine.size;
    }

    public int wipe() {
        int had = theLine.size;
        theLine.size = 0;
        return had;
    }

    public int line(int i) {
        return i < 0 || i >= theLine.size ? NONE : theLine.signs[i];
    }

    public int read() {
        if (!hasCode()) {
            return STATE;
        }
        if (!hand.isFree()) {
            return NO;
        }
        theLine.beginReading();
        for (int turn = 0; turn < LINE_ROOM && theLine.goesOn(); turn++) {
            int thing = theLine.readWord(hand);
            if (thing < 0) {
                return thing;
            }
        }
        return theLine.itemCount;
    }

    public int item(int k) {
        return k < 0 || k >= theLine.itemCount ? NONE : theLine.items[k];
    }

    // ---- 4 growing

    public int grow() {
        if (!canBuild(FREE)) {
            return STATE;
        }
        Arrays.fill(grownCounts, 1);
        makeByLevels(hand, grownCounts, 0);
        manner = GROWING;
        theLine.size = 0;
        return things;
    }

    public int send(int thing) {
        if (!isThing(thing)) {
            return UNKNOWN;
        }
        if (!isGrowing()) {
            return STATE;
        }
        if (!theLine.writeWord(hand, thing)) {
            return FULL;
        }
        grownCounts[thing]++;
        makeByLevels(hand, grownCounts, 0);
        return theLine.size;
    }

    public int hear() {
        if (!canBuild(FREE)) {
            return STATE;
        }
        Arrays.fill(heardCounts, 1);
        theLine.beginReading();
        for (int turn = 0; turn < LINE_ROOM && theLine.goesOn(); turn++) {
            makeByLevels(spare, heardCounts, 0);
            int thing = theLine.readWord(spare);
            if (thing < 0) {
                return thing;
            }
            heardCounts[thing]++;
        }
        return theLine.itemCount;
    }

    public int grown(int thing) {
        if (!isThing(thing)) {
            return UNKNOWN;
        }
        return isGrowing() ? grownCounts[thing] : STATE;
    }

    // ---- 5 steps

    public int step() {
        if (!hasCode()) {
            return STATE;
        }
        if (!hand.isFree()) {
            return NO;
        }
        if (stepFinder == null) {
            stepFinder = new StepFinder();
        }
        return stepFinder.find(hand, signs);
    }

    public int stepSign(int k) {
        return stepFinder == null ? NONE : stepFinder.signOfStep(k);
    }

    // ---- 6 the chest

    public int keep(int place) {
        if (!isPlace(place)) {
            return UNKNOWN;
        }
        if (!hasCode()) {
            return STATE;
        }
        chest[place].take(hand);
        return 1;
    }

    public int back(int place) {
        if (!isKept(place)) {
            return UNKNOWN;
        }
        if (chest[place].number != things) {
            return STATE;
        }
        handOver(chest[place]);
        return 1;
    }

    public int differs(int place) {
        if (!isKept(place)) {
            return UNKNOWN;
        }
        if (!hasCode()) {
            return STATE;
        }
        Code there = chest[place];
        for (int i = 0; i < there.number && i < hand.number; i++) {
            if (there.sizes[i] != hand.sizes[i] || there.rows[i] != hand.rows[i]) {
                return i;
            }
        }
        return NONE;
    }

    // ---- 7 told

    public int told(int what) {
        switch (what) {
            case 0:
                return signs;
            case 1:
                return things;
            case 2:
                return theLine.size;
            case 3:
                return hasCode() ? 1 : 0;
            case 4:
                return hasCode() && hand.isFree() ? hand.places() : 0;
            case 5:
                return stepFinder == null ? 0 : stepFinder.setsHad();
            case 6:
                return keptCodes();
            default:
                return OUTSIDE;
        }
    }

    public int price(int sign) {
        return isSign(sign) ? prices[sign] : UNKNOWN;
    }

    public int rank(int k) {
        if (!isThing(k)) {
            return UNKNOWN;
        }
        rankThings(order, counts, things);
        return order[k];
    }

    // ---- what is asked of arguments and state

    private boolean isSign(int sign) {
        return sign >= 0 && sign < signs;
    }

    private boolean isThing(int thing) {
        return thing >= 0 && thing < things;
    }

    private static boolean isPlace(int place) {
        return place >= 0 && place < CHEST_ROOM;
    }

    private boolean isKept(int place) {
        return isPlace(place) && chest[place].number > 0;
    }

    private boolean isKind(int kind, int x) {
        if (kind == BOUNDED) {
            return x >= 1 && x <= LONGEST;
        }
        if (kind == ENDED) {
            return isSign(x);
        }
        return kind == FREE || kind == ORDERED;
    }

    private boolean hasCode() {
        return hand.number > 0;
    }

    private boolean isGrowing() {
        return hasCode() && manner == GROWING;
    }

    private boolean hasSignsAndThings() {
        return signs >= 2 && things >= 1;
    }

    private boolean canBuild(int kind) {
        if (!hasSignsAndThings()) {
            return false;
        }
        if (kind == FREE) {
            return !pricesUnlike() || (things <= UNLIKE_THINGS && dearestPrice() <= UNLIKE_DEAREST);
        }
        return kind != BOUNDED || dearestPrice() == 1;
    }

    private boolean pricesUnlike() {
        for (int s = 1; s < signs; s++) {
            if (prices[s] != prices[0]) {
                return true;
            }
        }
        return false;
    }

    private int dearestPrice() {
        int most = 0;
        for (int s = 0; s < signs; s++) {
            most = Math.max(most, prices[s]);
        }
        return most;
    }

    private int keptCodes() {
        int kept = 0;
        for (int place = 0; place < CHEST_ROOM; place++) {
            if (chest[place].number > 0) {
                kept++;
            }
        }
        return kept;
    }

    /** Whatever was at hand, the new one is neither GROWING nor begun by own(). */
    private void handOver(Code code) {
        hand.take(code);
        manner = MADE;
    }

    private void dropCode() {
        hand.begin(0);
        manner = MADE;
    }

    // ---- what breaks a KIND

    private boolean breaksAlone(int thing, int kind, int x) {
        int size = hand.sizes[thing];
        if (size == 0) {
            return true;
        }
        if (kind == BOUNDED) {
            return size > x;
        }
        if (kind == ENDED) {
            for (int k = 0; k < size; k++) {
                boolean atEnd = k == size - 1;
                if ((signOfRow(hand.rows[thing], k) == x) != atEnd) {
                    return true;
                }
            }
        }
        return false;
    }

    /** The least THING of a greater number with which this one breaks the KIND, or NONE. */
    private int breaksWith(int thing, int kind) {
        for (int other = thing + 1; other < hand.number; other++) {
            if (hand.clash(thing, other)) {
                return other;
            }
            if (kind == ORDERED && hand.rows[thing] > hand.rows[other]) {
                return other;
            }
        }
        return NONE;
    }

    // ---- numbers of a code

    private long costAtHand() {
        long sum = 0;
        for (int i = 0; i < hand.number; i++) {
            long wordPrice = 0;
            for (int k = 0; k < hand.sizes[i]; k++) {
                wordPrice += prices[signOfRow(hand.rows[i], k)];
            }
            sum += counts[i] * wordPrice;
        }
        return sum;
    }

    /** How many ROWS of a size there are: 4 to the 24th at most. */
    private long rowsOfSize(int size) {
        long rows = 1;
        for (int k = 0; k < size; k++) {
            rows *= signs;
        }
        return rows;
    }

    // ---- making codes

    private boolean makeByLevels(Code code, int[] byCounts, int bound) {
        if (levelMaker == null) {
            levelMaker = new LevelMaker();
        }
        levelMaker.prepare(prices, signs, pricesUnlike(), bound);
        return levelMaker.make(code, byCounts, things);
    }

    private OrderMaker orders() {
        if (orderMaker == null) {
            orderMaker = new OrderMaker();
        }
        return orderMaker;
    }

    private void makeEnded(Code code, int end) {
        code.begin(things);
        rankThings(order, counts, things);
        open.start();
        for (int r = 0; r < things && open.isAny(); r++) {
            long row = open.firstRow();
            int size = open.firstSize();
            int level = open.firstLevel();
            open.dropFirst();
            code.giveWord(order[r], rowAndSign(row, size, end), size + 1);
            for (int s = 0; s < signs; s++) {
                if (s != end) {
                    open.insert(rowAndSign(row, size, s), size + 1, level + prices[s]);
                }
            }
        }
    }

    private boolean makeCanon(Code code) {
        code.begin(hand.number);
        hand.orderBySize(order);
        long row = 0;
        int size = 0;
        for (int r = 0; r < hand.number; r++) {
            int thing = order[r];
            if (hand.sizes[thing] == 0) {
                return false;
            }
            if (r > 0) {
                row = rowBehind(row, size, signs);
            }
            if (row < 0) {
                return false;
            }
            size = hand.sizes[thing];
            code.giveWord(thing, row, size);
        }
        return true;
    }

    // ---- bits of floats and doubles

    /** The whole number of a float told by its bits; 0: it is no number from 1 to 1000000. */
    private static int wholeOfFloat(int bits) {
        if (bits < FLOAT_ONE || bits > FLOAT_MILLION) {
            return 0;
        }
        int power = (bits >>> 23) - 127;
        int digits = (bits & 0x7fffff) | 0x800000;
        return digits >>> (23 - power);
    }

    /** The bits of a double that is 0.0, or neither too great nor too small for an exponent of its own. */
    private static long bitsOfDouble(double value) {
        if (!(value > 0.0)) {
            return 0L;
        }
        double digits = value;
        int power = 0;
        for (int turn = 0; turn < 1000 && digits >= 2.0; turn++) {
            digits = digits / 2.0;
            power++;
        }
        for (int turn = 0; turn < 1000 && digits < 1.0; turn++) {
            digits = digits * 2.0;
            power--;
        }
        long fraction = (long) ((digits - 1.0) * 4503599627370496.0);
        return ((power + 1023L) << 52) | fraction;
    }

    // ---- ROWS, held in the 48 low bits of a long, two bits a SIGN, the first SIGN highest: so numbers are ordered as ROWS

    private static int signOfRow(long row, int k) {
        return (int) (row >>> (2 * (LONGEST - 1 - k))) & 3;
    }

    private static long rowAndSign(long row, int size, int sign) {
        return size >= LONGEST ? row : row | ((long) sign << (2 * (LONGEST - 1 - size)));
    }

    /** At how many SIGNS from the beginning on two ROWS are alike, as far as their bits go. */
    private static int alikeSigns(long one, long other) {
        return (Long.numberOfLeadingZeros(one ^ other) - 16) >> 1;
    }

    /** The first ROW behind this one that does not begin with it, or -1. */
    private static long rowBehind(long row, int size, int signs) {
        long behind = row;
        for (int k = size - 1; k >= 0; k--) {
            long unit = 1L << (2 * (LONGEST - 1 - k));
            int sign = signOfRow(behind, k);
            if (sign < signs - 1) {
                return behind + unit;
            }
            behind -= sign * unit;
        }
        return -1L;
    }

    private static void rankThings(int[] ranks, int[] byCounts, int number) {
        for (int i = 0; i < number; i++) {
            int at = i;
            for (; at > 0 && byCounts[ranks[at - 1]] < byCounts[i]; at--) {
                ranks[at] = ranks[at - 1];
            }
            ranks[at] = i;
        }
    }

    /** A CODE: a WORD for each of a number of THINGS; with none it is no CODE. */
    private static final class Code {
        final long[] rows = new long[MOST_THINGS];
        final int[] sizes = new int[MOST_THINGS];
        int number;

        void begin(int things) {
            number = things;
            Arrays.fill(rows, 0L);
            Arrays.fill(sizes, 0);
        }

        void take(Code other) {
            number = other.number;
            System.arraycopy(other.rows, 0, rows, 0, MOST_THINGS);
            System.arraycopy(other.sizes, 0, sizes, 0, MOST_THINGS);
        }

        void giveWord(int thing, long row, int size) {
            rows[thing] = row;
            sizes[thing] = size;
        }

        /** Whether one WORD is the beginning of the other one, or the same. */
        boolean clash(int i, int j) {
            return alikeSigns(rows[i], rows[j]) >= Math.min(sizes[i], sizes[j]);
        }

        boolean isFree() {
            for (int i = 0; i < number; i++) {
                if (sizes[i] == 0) {
                    return false;
                }
                for (int j = i + 1; j < number; j++) {
                    if (clash(i, j)) {
                        return false;
                    }
                }
            }
            return true;
        }

        /** How many PLACES a FREE CODE has: each WORD brings those that no WORD ahead of it has. */
        int places() {
            int sum = 0;
            for (int i = 0; i < number; i++) {
                int shared = -1;
                for (int j = 0; j < i; j++) {
                    shared = Math.max(shared, alikeSigns(rows[i], rows[j]));
                }
                sum += sizes[i] - 1 - shared;
            }
            return sum;
        }

        void orderBySize(int[] order) {
            for (int i = 0; i < number; i++) {
                int at = i;
                for (; at > 0 && sizes[order[at - 1]] > sizes[i]; at--) {
                    order[at] = order[at - 1];
                }
                order[at] = i;
            }
        }
    }

    /** THE LINE, how far it has been read, and the THINGS that were read. */
    private static final class Line {
        final int[] signs = new int[LINE_ROOM];
        final int[] items = new int[LINE_ROOM];
        int size;
        int itemCount;
        private int at;

        void putSign(int sign) {
            signs[size] = sign;
            size++;
        }

        /** False: it does not fit, and nothing is written. */
        boolean writeWord(Code code, int thing) {
            int more = code.sizes[thing];
            if (size + more > LINE_ROOM) {
                return false;
            }
            for (int k = 0; k < more; k++) {
                putSign(signOfRow(code.rows[thing], k));
            }
            return true;
        }

        void beginReading() {
            at = 0;
            itemCount = 0;
        }

        boolean goesOn() {
            return at < size;
        }

        /** The THING whose WORD stands where the reading is, or -100 less the place of a FAULT. */
        int readWord(Code code) {
            int ahead = Math.min(LONGEST, size - at);
            long row = 0;
            for (int k = 0; k < ahead; k++) {
                row = rowAndSign(row, k, signs[at + k]);
            }
            int furthest = 0;
            for (int i = 0; i < code.number; i++) {
                int alike = Math.min(alikeSigns(row, code.rows[i]), Math.min(ahead, code.sizes[i]));
                if (alike == code.sizes[i]) {
                    at += alike;
                    items[itemCount] = i;
                    itemCount++;
                    return i;
                }
                furthest = Math.max(furthest, alike);
            }
            return -100 - at - furthest;
        }
    }

    /** OPEN ROWS, the least level first, of like ones in order. */
    private static final class OpenRows {
        /** The empty ROW, and what 24 continued ones bring. */
        private static final int MOST = 1 + MOST_SIGNS * MOST_THINGS;

        private final long[] rows = new long[MOST];
        private final int[] sizes = new int[MOST];
        private final int[] levels = new int[MOST];
        private int first;
        private int end;

        void start() {
            first = 0;
            end = 0;
            insert(0L, 0, 0);
        }

        boolean isAny() {
            return first < end;
        }

        long firstRow() {
            return rows[first];
        }

        int firstSize() {
            return sizes[first];
        }

        int firstLevel() {
            return levels[first];
        }

        void dropFirst() {
            first++;
        }

        void insert(long row, int size, int level) {
            if (end >= MOST) {
                return;
            }
            int at = end;
            for (; at > first && isBehind(at - 1, row, level); at--) {
                rows[at] = rows[at - 1];
                sizes[at] = sizes[at - 1];
                levels[at] = levels[at - 1];
            }
            rows[at] = row;
            sizes[at] = size;
            levels[at] = level;
            end++;
        }

        /** ROWS of one price are never one the beginning of the other: their bits alone order them. */
        private boolean isBehind(int at, long row, int level) {
            return levels[at] > level || (levels[at] == level && rows[at] > row);
        }
    }

    /**
     * Makes FREE and BOUNDED codes. In a way of the least COST no ROW is left while a THING is
     * without a WORD (its last WORD there would be cheaper), so at each LEVEL only the number of
     * WORDS is chosen and all other OPEN ROWS are continued. With like prices a LEVEL is a length.
     */
    private static final class LevelMaker {
        /** Above the LEVELS that 8 THINGS at prices up to 3 (21), or 24 at like prices (23), can need. */
        private static final int DEEPEST = 40;
        private static final int BY_LENGTH = 12;
        private static final int PER_LEVEL = 25 * BY_LENGTH;
        private static final int MEMO = LONGEST * PER_LEVEL;
        private static final int SPAN = UNLIKE_THINGS + 1;

        private final long[] memo = new long[MEMO];
        private final int[] stamps = new int[MEMO];
        private final long[] lastCounts = new long[MOST_THINGS + 1];
        private final int[] ranks = new int[MOST_THINGS];
        private final int[] steps = new int[MOST_SIGNS];
        private final int[] born = new int[UNLIKE_DEAREST + 1];
        private final OpenRows open = new OpenRows();
        private int stamp;
        private int signs;
        private int bound;
        private boolean unlike;

        /** A bound of 0 is none. */
        void prepare(int[] prices, int signNumber, boolean pricesUnlike, int longest) {
            signs = signNumber;
            unlike = pricesUnlike;
            bound = longest;
            Arrays.fill(born, 0);
            for (int s = 0; s < signs; s++) {
                steps[s] = unlike ? Math.min(prices[s], UNLIKE_DEAREST) : 1;
                born[steps[s]]++;
            }
        }

        /** False: there is no such CODE. */
        boolean make(Code code, int[] byCounts, int things) {
            rankThings(ranks, byCounts, things);
            sumLastCounts(byCounts, things);
            stamp++;
            int now = Math.min(things, born[1]);
            int next = Math.min(things, born[2]);
            int third = Math.min(things, born[3]);
            if (least(1, now, next, third, things) >= ENDLESS) {
                return false;
            }
            code.begin(things);
            open.start();
            continueFirst();
            int rest = things;
            for (int level = 1; level < DEEPEST && rest > 0; level++) {
                int words = wordsAt(level, now, next, third, rest);
                giveWords(code, words, things - rest);
                rest -= words;
                int more = now - words;
                for (int m = 0; m < more && rest > 0; m++) {
                    continueFirst();
                }
                now = Math.min(rest, next + born[1] * more);
                next = Math.min(rest, third + born[2] * more);
                third = Math.min(rest, born[3] * more);
            }
            return true;
        }

        private void sumLastCounts(int[] byCounts, int things) {
            lastCounts[0] = 0;
            for (int q = 1; q <= things; q++) {
                lastCounts[q] = lastCounts[q - 1] + byCounts[ranks[things - q]];
            }
        }

        private void giveWords(Code code, int words, int fromRank) {
            for (int k = 0; k < words && open.isAny(); k++) {
                code.giveWord(ranks[fromRank + k], open.firstRow(), open.firstSize());
                open.dropFirst();
            }
        }

        private void continueFirst() {
            if (!open.isAny()) {
                return;
            }
            long row = open.firstRow();
            int size = open.firstSize();
            int level = open.firstLevel();
            open.dropFirst();
            for (int s = 0; s < signs; s++) {
                open.insert(rowAndSign(row, size, s), size + 1, level + steps[s]);
            }
        }

        private int wordsAt(int level, int now, int next, int third, int rest) {
            if (now >= rest) {
                return rest;
            }
            long best = least(level, now, next, third, rest);
            for (int words = now; words > 0; words--) {
                if (leastWith(level, now, next, third, rest, words) == best) {
                    return words;
                }
            }
            return 0;
        }

        /**
         * What the rest of the THINGS costs at least from this LEVEL on, with so many OPEN ROWS
         * at it and at the next two (more than the rest are no better, so they are cut to it).
         */
        private long least(int level, int now, int next, int third, int rest) {
            if (now >= rest) {
                return 0L;
            }
            int deepest = bound > 0 ? bound : DEEPEST;
            if (level >= deepest || now + next + third == 0) {
                return ENDLESS;
            }
            int at = memoPlace(level, now, next, third, rest);
            if (stamps[at] == stamp) {
                return memo[at];
            }
            long best = ENDLESS;
            for (int words = 0; words <= now; words++) {
                best = Math.min(best, leastWith(level, now, next, third, rest, words));
            }
            stamps[at] = stamp;
            memo[at] = best;
            return best;
        }

        private long leastWith(int level, int now, int next, int third, int rest, int words) {
            int left = rest - words;
            int more = now - words;
            long behind = least(level + 1, Math.min(left, next + born[1] * more),
                    Math.min(left, third + born[2] * more), Math.min(left, born[3] * more), left);
            return behind >= ENDLESS ? ENDLESS : lastCounts[left] + behind;
        }

        /** With like prices the OPEN ROWS are a multiple of 2, 3 or 4: halved they are still told apart. */
        private int memoPlace(int level, int now, int next, int third, int rest) {
            if (unlike) {
                return (((rest - 1) * UNLIKE_THINGS + now) * SPAN + next) * SPAN + third;
            }
            return (bound > 0 ? level * PER_LEVEL : 0) + rest * BY_LENGTH + (now >> 1);
        }
    }

    /** Makes ORDERED codes, and weighs their NODES. */
    private static final class OrderMaker {
        private static final int SQUARE = MOST_THINGS * MOST_THINGS;

        /** The least COST of a NODE of THINGS i to j. */
        private final long[] nodes = new long[SQUARE];
        /** The least COST of THINGS i to j dealt to the SIGNS from s on (1 at least), to one alone too. */
        private final long[] deals = new long[(MOST_SIGNS + 1) * SQUARE];
        private final long[] sums = new long[MOST_THINGS + 1];
        private final int[] signPrices = new int[MOST_SIGNS];
        private int signs;

        void make(Code code, int[] counts, int things, int[] prices, int signNumber) {
            code.begin(things);
            weigh(counts, 0, things - 1, prices, signNumber);
            if (things == 1) {
                code.giveWord(0, rowAndSign(0L, 0, cheapestSign()), 1);
            } else {
                dealNode(code, 0, things - 1, 0L, 0);
            }
        }

        long leastOf(int i, int j) {
            return nodes[i * MOST_THINGS + j];
        }

        void weigh(int[] counts, int from, int to, int[] prices, int signNumber) {
            signs = signNumber;
            System.arraycopy(prices, 0, signPrices, 0, MOST_SIGNS);
            sums[from] = 0;
            for (int i = from; i <= to; i++) {
                sums[i + 1] = sums[i] + counts[i];
            }
            for (int more = 0; more <= to - from; more++) {
                for (int i = from; i + more <= to; i++) {
                    weighNode(i, i + more);
                    weighDeals(i, i + more);
                }
            }
        }

        private void weighNode(int i, int j) {
            long best = i == j ? 0L : ENDLESS;
            for (int s = 0; s < signs; s++) {
                for (int last = i; last < j; last++) {
                    best = Math.min(best, behindSign(s, i, last) + dealOf(s + 1, last + 1, j));
                }
            }
            nodes[i * MOST_THINGS + j] = best;
        }

        private void weighDeals(int i, int j) {
            deals[(signs * MOST_THINGS + i) * MOST_THINGS + j] = ENDLESS;
            for (int s = signs - 1; s >= 1; s--) {
                long best = dealOf(s + 1, i, j);
                for (int last = i; last <= j; last++) {
                    best = Math.min(best, behindSign(s, i, last) + dealOf(s + 1, last + 1, j));
                }
                deals[(s * MOST_THINGS + i) * MOST_THINGS + j] = best;
            }
        }

        private long behindSign(int s, int i, int j) {
            return signPrices[s] * (sums[j + 1] - sums[i]) + leastOf(i, j);
        }

        private long dealOf(int s, int i, int j) {
            return i > j ? 0L : deals[(s * MOST_THINGS + i) * MOST_THINGS + j];
        }

        /** A deal of all to one SIGN costs more than the NODE: it is never taken here. */
        private void dealNode(Code code, int i, int j, long row, int size) {
            if (size >= LONGEST) {
                return;
            }
            long target = leastOf(i, j);
            int at = i;
            for (int s = 0; s < signs && at <= j; s++) {
                int last = lastBehind(s, at, j, target);
                if (last >= at) {
                    target -= behindSign(s, at, last);
                    long longer = rowAndSign(row, size, s);
                    if (last == at) {
                        code.giveWord(at, longer, size + 1);
                    } else {
                        dealNode(code, at, last, longer, size + 1);
                    }
                    at = last + 1;
                }
            }
        }

        /** The least last THING behind a SIGN that keeps to the target; one less than the first: none. */
        private int lastBehind(int s, int first, int j, long target) {
            for (int last = first - 1; last <= j; last++) {
                long here = last < first ? 0L : behindSign(s, first, last);
                if (here + dealOf(s + 1, last + 1, j) == target) {
                    return last;
                }
            }
            return first - 1;
        }

        private int cheapestSign() {
            int best = 0;
            for (int s = 1; s < signs; s++) {
                if (signPrices[s] < signPrices[best]) {
                    best = s;
                }
            }
            return best;
        }
    }

    /** Looks for STEPS by sets of PLACES, and keeps the latest one that it found. */
    private static final class StepFinder {
        private static final int MOST_SETS = 2000;
        /** HOME, and up to 23 beginnings of each of 24 WORDS. */
        private static final int MOST_PLACES = 1 + MOST_THINGS * (LONGEST - 1);
        private static final int MOST_PARTS = (MOST_PLACES + 63) / 64;
        private static final int TABLE = 4096;

        /** Where a SIGN leads from a PLACE: 0 nowhere, -1 HOME at a WORD's end, or the PLACE. */
        private final int[] leads = new int[MOST_PLACES * MOST_SIGNS];
        private final long[] sets = new long[MOST_SETS * MOST_PARTS];
        private final int[] cameFrom = new int[MOST_SETS];
        private final int[] cameBy = new int[MOST_SETS];
        /** Numbers of sets, one more than they are, at their marks or behind. */
        private final int[] table = new int[TABLE];
        private final long[] image = new long[MOST_PARTS];
        private int places;
        private int parts;
        private int had;
        private int found = -1;
        private int stepSize;

        int setsHad() {
            return had;
        }

        int signOfStep(int k) {
            if (found < 0 || k < 0 || k >= stepSize) {
                return NONE;
            }
            int set = found;
            for (int at = stepSize - 1; at > k; at--) {
                set = cameFrom[set];
            }
            return cameBy[set];
        }

        int find(Code code, int signs) {
            layPlaces(code);
            parts = (places + 63) >> 6;
            had = 0;
            found = -1;
            stepSize = 0;
            Arrays.fill(table, 0);
            fillImage();
            if (takeImage(-1, 0)) {
                return stepSize;
            }
            for (int set = 0; set < MOST_SETS && set < had; set++) {
                for (int s = 0; s < signs; s++) {
                    if (!makeImage(set, s)) {
                        continue;
                    }
                    int slot = slotOfImage();
                    if (table[slot] != 0) {
                        continue;
                    }
                    if (had >= MOST_SETS) {
                        return SPENT;
                    }
                    if (takeImage(set, s)) {
                        return stepSize;
                    }
                }
            }
            return NONE;
        }

        private void layPlaces(Code code) {
            places = 0;
            newPlace();
            for (int i = 0; i < code.number; i++) {
                int place = 0;
                for (int k = 0; k < code.sizes[i]; k++) {
                    int lead = place * MOST_SIGNS + signOfRow(code.rows[i], k);
                    if (k == code.sizes[i] - 1) {
                        leads[lead] = -1;
                    } else {
                        if (leads[lead] <= 0) {
                            leads[lead] = newPlace();
                        }
                        place = leads[lead];
                    }
                }
            }
        }

        private int newPlace() {
            if (places >= MOST_PLACES) {
                return 0;
            }
            for (int s = 0; s < MOST_SIGNS; s++) {
                leads[places * MOST_SIGNS + s] = 0;
            }
            places++;
            return places - 1;
        }

        private void fillImage() {
            Arrays.fill(image, 0L);
            for (int place = 0; place < places; place++) {
                image[place >> 6] |= 1L << (place & 63);
            }
        }

        /** What a SIGN makes of a set; false: it leads nowhere from one of it. */
        private boolean makeImage(int set, int s) {
            Arrays.fill(image, 0L);
            for (int part = 0; part < parts; part++) {
                long bits = sets[set * MOST_PARTS + part];
                for (int turn = 0; turn < 64 && bits != 0; turn++) {
                    int place = (part << 6) + Long.numberOfTrailingZeros(bits);
                    bits &= bits - 1;
                    int lead = leads[place * MOST_SIGNS + s];
                    if (lead == 0) {
                        return false;
                    }
                    int to = Math.max(lead, 0);
                    image[to >> 6] |= 1L << (to & 63);
                }
            }
            return true;
        }

        /** Keeps the image as a new set; true: it is HOME alone, and so the STEP is found. */
        private boolean takeImage(int from, int s) {
            int set = had;
            for (int part = 0; part < parts; part++) {
                sets[set * MOST_PARTS + part] = image[part];
            }
            cameFrom[set] = from;
            cameBy[set] = s;
            had++;
            table[slotOfImage()] = had;
            if (!imageIsHome()) {
                return false;
            }
            found = set;
            int back = set;
            for (int turn = 0; turn < MOST_SETS && cameFrom[back] >= 0; turn++) {
                back = cameFrom[back];
                stepSize++;
            }
            return true;
        }

        private boolean imageIsHome() {
            if (image[0] != 1L) {
                return false;
            }
            for (int part = 1; part < parts; part++) {
                if (image[part] != 0L) {
                    return false;
                }
            }
            return true;
        }

        /** The slot of the table at which the image stands, or the empty one where it would. */
        private int slotOfImage() {
            long mark = 0L;
            for (int part = 0; part < parts; part++) {
                mark = (mark ^ image[part]) * 0x9E3779B97F4A7C15L;
                mark ^= mark >>> 29;
            }
            int slot = (int) (mark >>> 20) & (TABLE - 1);
            for (int turn = 0; turn < TABLE && table[slot] != 0 && !imageIs(table[slot] - 1); turn++) {
                slot = (slot + 1) & (TABLE - 1);
            }
            return slot;
        }

        private boolean imageIs(int set) {
            for (int part = 0; part < parts; part++) {
                if (sets[set * MOST_PARTS + part] != image[part]) {
                    return false;
                }
            }
            return true;
        }
    }
}
