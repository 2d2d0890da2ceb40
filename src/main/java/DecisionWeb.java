import java.util.Arrays;

/**
 * A house of questions answered yes or no by up to a dozen letters.
 *
 * A FUNCTION is held as a table of bits. The bit's number has the LETTER of LEVEL 0 as its highest
 * digit and that of the last LEVEL as its lowest, so that each FUNCTION below it, at any LEVEL, is
 * an unbroken part of the table: two FORKS are the same just if their parts are.
 */
public final class DecisionWeb {
    public static final int NONE = -1;

    private static final int DONE = 0;
    private static final int OUT_OF_RANGE = -2;
    private static final int NOTHING_ALLOWED = -3;
    private static final int OVER_CAPACITY = -8;
    private static final int AT_ALL_NO = -2;
    private static final int AT_ALL_YES = -3;

    private static final int REGISTERS = 32;
    private static final int MOST_LETTERS = 12;
    private static final int MOST_CAPACITY = 20000;
    private static final int MOST_COST = 1000000;
    private static final int MOST_JOINS = 15;
    private static final int MOST_ASSIGNMENTS = 1 << MOST_LETTERS;

    /**
     * The most FORKS that so many LETTERS let 32 REGISTERS have: at LEVEL k no more than 32 times 2 to
     * the k, nor more than there are FUNCTIONS of the LETTERS left that differ by the first of them.
     */
    private static final int[] MOST_FORKS = {0, 2, 14, 46, 110, 238, 478, 734, 1246, 2270, 4318, 8414, 16606};

    /** The table in which a call makes its FUNCTION ahead of knowing whether it may be kept. */
    private static final int SPARE = REGISTERS;
    /** A table that stays all no: there the POINTER rests. */
    private static final int ALL_NO = REGISTERS + 1;
    private static final int TABLES = REGISTERS + 2;

    private final long[][] tables = new long[TABLES][MOST_ASSIGNMENTS >> Bits.WORD_SHIFT];
    private final int[] order = new int[MOST_LETTERS];
    private final int[] costs = new int[MOST_LETTERS];
    private final int[] firstRow = new int[2 * MOST_ASSIGNMENTS];
    private final int[] secondRow = new int[2 * MOST_ASSIGNMENTS];
    private final Survey survey = new Survey();
    private int letterCount;
    private int capacity;
    /** How many words of a table are used, and which bits of each. */
    private int words;
    private long wholeWord;
    /** The POINTER is at the part of this table that begins at this bit and has this LEVEL on top. */
    private int pointerTable;
    private int pointerStart;
    private int pointerLevel;

    public DecisionWeb() {
        begin(6, 2000);
    }

    public boolean fresh(int n, int capacity) {
        if (n < 1 || n > MOST_LETTERS || capacity < 0 || capacity > MOST_CAPACITY) {
            return false;
        }
        begin(n, capacity);
        return true;
    }

    public int constant(int r, boolean yes) {
        if (!isRegister(r)) {
            return OUT_OF_RANGE;
        }
        Arrays.fill(tables[r], 0, words, yes ? wholeWord : 0L);
        restPointer();
        return DONE;
    }

    public int letter(int r, int v) {
        if (!isRegister(r) || !isLetter(v)) {
            return OUT_OF_RANGE;
        }
        int place = placeOf(v);
        long[] made = tables[SPARE];
        for (int j = 0; j < words; j++) {
            made[j] = Bits.letterWord(j, place) & wholeWord;
        }
        return keep(r);
    }

    public int join(int r, int a, int b, int table) {
        if (!isRegister(r) || !isRegister(a) || !isRegister(b) || table < 0 || table > MOST_JOINS) {
            return OUT_OF_RANGE;
        }
        long[] made = tables[SPARE];
        for (int j = 0; j < words; j++) {
            made[j] = Bits.joinedWord(tables[a][j], tables[b][j], table) & wholeWord;
        }
        return keep(r);
    }

    public int fork(int r, int a, int b, int c) {
        if (!isRegister(r) || !isRegister(a) || !isRegister(b) || !isRegister(c)) {
            return OUT_OF_RANGE;
        }
        long[] made = tables[SPARE];
        for (int j = 0; j < words; j++) {
            made[j] = Bits.chosenWord(tables[a][j], tables[b][j], tables[c][j]);
        }
        return keep(r);
    }

    public int fix(int r, int a, int v, boolean one) {
        if (!isRegister(r) || !isRegister(a) || !isLetter(v)) {
            return OUT_OF_RANGE;
        }
        int place = placeOf(v);
        long[] made = tables[SPARE];
        for (int j = 0; j < words; j++) {
            made[j] = Bits.fixedWord(tables[a], j, place, one);
        }
        return keep(r);
    }

    public int put(int r, int a, int v, int b) {
        if (!isRegister(r) || !isRegister(a) || !isLetter(v) || !isRegister(b)) {
            return OUT_OF_RANGE;
        }
        int place = placeOf(v);
        long[] made = tables[SPARE];
        for (int j = 0; j < words; j++) {
            long with = Bits.fixedWord(tables[a], j, place, true);
            long without = Bits.fixedWord(tables[a], j, place, false);
            made[j] = Bits.chosenWord(tables[b][j], with, without);
        }
        return keep(r);
    }

    public int sum(int r, int a, int mask, boolean all) {
        if (!isRegister(r) || !isRegister(a) || !isAssignment(mask)) {
            return OUT_OF_RANGE;
        }
        copyToSpare(a);
        for (int v = 0; v < letterCount; v++) {
            if ((mask >> v & 1) != 0) {
                sumSpare(placeOf(v), all);
            }
        }
        return keep(r);
    }

    public int trade(int r, int a, int u, int v) {
        if (!isRegister(r) || !isRegister(a) || !isLetter(u) || !isLetter(v)) {
            return OUT_OF_RANGE;
        }
        copyToSpare(a);
        Bits.exchange(tables[SPARE], words, placeOf(u), placeOf(v));
        return keep(r);
    }

    public int near(int r, int a, int c) {
        if (!isRegister(r) || !isRegister(a) || !isRegister(c)) {
            return OUT_OF_RANGE;
        }
        if (isAll(c, 0L)) {
            return NOTHING_ALLOWED;
        }
        findNearest(tables[c], firstRow, secondRow);
        int bits = 1 << letterCount;
        long[] made = tables[SPARE];
        Arrays.fill(made, 0, words, 0L);
        for (int i = 0; i < bits; i++) {
            if (Bits.has(tables[a], secondRow[bits + i] - bits)) {
                Bits.mark(made, i);
            }
        }
        return keep(r);
    }

    public int copy(int r, int a) {
        if (!isRegister(r) || !isRegister(a)) {
            return OUT_OF_RANGE;
        }
        System.arraycopy(tables[a], 0, tables[r], 0, words);
        restPointer();
        return DONE;
    }

    public int swap(int k) {
        if (!isLevel(k) || k == letterCount - 1) {
            return OUT_OF_RANGE;
        }
        turn(k);
        if (forksOfAll() > capacity) {
            turn(k);
            return OVER_CAPACITY;
        }
        restPointer();
        return DONE;
    }

    public int sift(int v) {
        if (!isLetter(v)) {
            return OUT_OF_RANGE;
        }
        for (int k = levelOf(v) - 1; k >= 0; k--) {
            turn(k);
        }
        int best = bestLevelGoingDown(forksOfAll());
        for (int k = letterCount - 2; k >= best; k--) {
            turn(k);
        }
        restPointer();
        return best;
    }

    public int cost(int v, int cost) {
        if (!isLetter(v) || cost < 0 || cost > MOST_COST) {
            return OUT_OF_RANGE;
        }
        int before = costs[v];
        costs[v] = cost;
        return before;
    }

    public int same(int a, int b) {
        if (!isRegister(a) || !isRegister(b)) {
            return OUT_OF_RANGE;
        }
        return Bits.alike(tables[a], 0, tables[b], 0, 1 << letterCount) ? 1 : 0;
    }

    public int tells(int a, int assignment) {
        if (!isRegister(a) || !isAssignment(assignment)) {
            return OUT_OF_RANGE;
        }
        return Bits.has(tables[a], bitOf(assignment)) ? 1 : 0;
    }

    public int many(int a) {
        if (!isRegister(a)) {
            return OUT_OF_RANGE;
        }
        int found = 0;
        for (int j = 0; j < words; j++) {
            found += Long.bitCount(tables[a][j]);
        }
        return found;
    }

    public int pick(int a, int i) {
        if (!isRegister(a)) {
            return OUT_OF_RANGE;
        }
        if (i < 0) {
            return NONE;
        }
        listBits(firstRow);
        int ahead = 0;
        for (int x = 0; x < 1 << letterCount; x++) {
            if (Bits.has(tables[a], firstRow[x])) {
                if (ahead == i) {
                    return x;
                }
                ahead++;
            }
        }
        return NONE;
    }

    public int cheapest(int a) {
        if (!isRegister(a)) {
            return OUT_OF_RANGE;
        }
        listBits(firstRow);
        listCosts(secondRow);
        int best = NONE;
        for (int x = 0; x < 1 << letterCount; x++) {
            if (Bits.has(tables[a], firstRow[x]) && (best == NONE || secondRow[x] < secondRow[best])) {
                best = x;
            }
        }
        return best;
    }

    public int dearest(int a) {
        if (!isRegister(a)) {
            return OUT_OF_RANGE;
        }
        listBits(firstRow);
        listCosts(secondRow);
        int greatest = NONE;
        for (int x = 0; x < 1 << letterCount; x++) {
            if (Bits.has(tables[a], firstRow[x])) {
                greatest = Math.max(greatest, secondRow[x]);
            }
        }
        return greatest;
    }

    public int letters(int a) {
        if (!isRegister(a)) {
            return OUT_OF_RANGE;
        }
        int mask = 0;
        for (int v = 0; v < letterCount; v++) {
            if (differsBy(tables[a], placeOf(v))) {
                mask |= 1 << v;
            }
        }
        return mask;
    }

    public int size(int a) {
        if (!isRegister(a)) {
            return OUT_OF_RANGE;
        }
        return forksOfOne(a);
    }

    public int width(int a, int level) {
        if (!isRegister(a) || !isLevel(level)) {
            return OUT_OF_RANGE;
        }
        forksOfOne(a);
        return survey.widths[level];
    }

    public int point(int a) {
        if (!isRegister(a)) {
            return OUT_OF_RANGE;
        }
        pointAt(a);
        return DONE;
    }

    public boolean go(boolean high) {
        int k = pointerFork();
        if (k == letterCount) {
            return false;
        }
        if (high) {
            pointerStart += 1 << placeAt(k);
        }
        pointerLevel = k + 1;
        return true;
    }

    public int at() {
        int k = pointerFork();
        if (k < letterCount) {
            return order[k];
        }
        return Bits.has(tables[pointerTable], pointerStart) ? AT_ALL_YES : AT_ALL_NO;
    }

    public int level(int k, int what) {
        if (!isLevel(k)) {
            return NONE;
        }
        if (what == 0) {
            return order[k];
        }
        if (what == 1) {
            forksOfAll();
            return survey.widths[k];
        }
        return NONE;
    }

    public int count(int what) {
        switch (what) {
            case 0:
                return letterCount;
            case 1:
                return capacity;
            case 2:
                return forksOfAll();
            case 3:
                return unsettledRegisters();
            default:
                return NONE;
        }
    }

    private void begin(int n, int room) {
        letterCount = n;
        capacity = room;
        int bits = 1 << n;
        words = Math.max(1, bits >> Bits.WORD_SHIFT);
        wholeWord = Bits.lowOnes(bits);
        for (int t = 0; t < TABLES; t++) {
            Arrays.fill(tables[t], 0L);
        }
        for (int v = 0; v < MOST_LETTERS; v++) {
            order[v] = v;
            costs[v] = 0;
        }
        restPointer();
    }

    private static boolean isRegister(int r) {
        return r >= 0 && r < REGISTERS;
    }

    private boolean isLetter(int v) {
        return v >= 0 && v < letterCount;
    }

    private boolean isLevel(int k) {
        return k >= 0 && k < letterCount;
    }

    private boolean isAssignment(int x) {
        return x >= 0 && x < 1 << letterCount;
    }

    private int levelOf(int v) {
        int found = 0;
        for (int k = 0; k < letterCount; k++) {
            if (order[k] == v) {
                found = k;
            }
        }
        return found;
    }

    /** Which digit of a bit's number the LETTER of LEVEL k is. */
    private int placeAt(int k) {
        return letterCount - 1 - k;
    }

    private int placeOf(int v) {
        return placeAt(levelOf(v));
    }

    private int bitOf(int assignment) {
        int bit = 0;
        for (int k = 0; k < letterCount; k++) {
            bit = 2 * bit + (assignment >> order[k] & 1);
        }
        return bit;
    }

    /** The bit's number of each ASSIGNMENT. */
    private void listBits(int[] row) {
        row[0] = 0;
        for (int v = 0; v < letterCount; v++) {
            extend(row, v, 1 << placeOf(v));
        }
    }

    /** The COST of each ASSIGNMENT. */
    private void listCosts(int[] row) {
        row[0] = 0;
        for (int v = 0; v < letterCount; v++) {
            extend(row, v, costs[v]);
        }
    }

    /** From the ASSIGNMENTS of the LETTERS under v to those in which v is 1 besides. */
    private static void extend(int[] row, int v, int worth) {
        int known = 1 << v;
        for (int x = 0; x < known; x++) {
            row[known + x] = row[x] + worth;
        }
    }

    private void copyToSpare(int a) {
        System.arraycopy(tables[a], 0, tables[SPARE], 0, words);
    }

    /** It may overwrite what it still reads: a sum that stands already, summed once more, stays what it is. */
    private void sumSpare(int place, boolean all) {
        long[] made = tables[SPARE];
        for (int j = 0; j < words; j++) {
            long with = Bits.fixedWord(made, j, place, true);
            long without = Bits.fixedWord(made, j, place, false);
            made[j] = all ? with & without : with | without;
        }
    }

    /**
     * Both rows are trees: behind entry e come 2e and 2e + 1, which have the next LETTER 0 and 1, and
     * the ASSIGNMENTS are the last entries. The first row tells whether something is allowed below an
     * entry, the second which entry stands for it as the nearest.
     */
    private void findNearest(long[] allowed, int[] some, int[] nearest) {
        int bits = 1 << letterCount;
        for (int i = 0; i < bits; i++) {
            some[bits + i] = Bits.has(allowed, i) ? 1 : 0;
        }
        for (int e = bits - 1; e >= 1; e--) {
            some[e] = some[2 * e] | some[2 * e + 1];
        }
        nearest[1] = 1;
        for (int e = 2; e < 2 * bits; e++) {
            int wished = 2 * nearest[e >> 1] + (e & 1);
            nearest[e] = some[wished] != 0 ? wished : wished ^ 1;
        }
    }

    /** REGISTER r becomes what the spare table is, if there is room for it. */
    private int keep(int r) {
        if (capacity < MOST_FORKS[letterCount]
                && survey.forksOf(tables, 0, REGISTERS - 1, r, letterCount) > capacity) {
            return OVER_CAPACITY;
        }
        System.arraycopy(tables[SPARE], 0, tables[r], 0, words);
        restPointer();
        return DONE;
    }

    private int forksOfAll() {
        return survey.forksOf(tables, 0, REGISTERS - 1, NONE, letterCount);
    }

    private int forksOfOne(int a) {
        return survey.forksOf(tables, a, a, NONE, letterCount);
    }

    /**
     * Leads the first LEVEL's LETTER down to the last: the LEVEL at which FORKS were fewest. They have
     * just been counted, so that the survey has the WIDTHS. Each step changes those of two LEVELS alone,
     * and what is below the one above them stays listed.
     */
    private int bestLevelGoingDown(int forksAtFirst) {
        int forks = forksAtFirst;
        int fewest = forks;
        int best = 0;
        int ownWidth = survey.widths[0];
        survey.list(tables, 0, REGISTERS - 1, NONE, letterCount);
        for (int k = 1; k < letterCount; k++) {
            int before = ownWidth + survey.widths[k];
            turn(k - 1);
            int passedWidth = survey.cut(tables, 1 << placeAt(k - 1));
            ownWidth = survey.forksListed(tables, 1 << placeAt(k));
            forks += passedWidth + ownWidth - before;
            if (forks < fewest) {
                fewest = forks;
                best = k;
            }
        }
        return best;
    }

    /** The LETTERS of LEVELS k and k + 1 change places; done twice it is undone. */
    private void turn(int k) {
        int upper = order[k];
        order[k] = order[k + 1];
        order[k + 1] = upper;
        for (int r = 0; r < REGISTERS; r++) {
            Bits.exchange(tables[r], words, placeAt(k), placeAt(k + 1));
        }
    }

    private boolean differsBy(long[] table, int place) {
        for (int j = 0; j < words; j++) {
            if (Bits.fixedWord(table, j, place, true) != Bits.fixedWord(table, j, place, false)) {
                return true;
            }
        }
        return false;
    }

    private boolean isAll(int a, long word) {
        for (int j = 0; j < words; j++) {
            if (tables[a][j] != word) {
                return false;
            }
        }
        return true;
    }

    private int unsettledRegisters() {
        int found = 0;
        for (int r = 0; r < REGISTERS; r++) {
            if (!isAll(r, 0L) && !isAll(r, wholeWord)) {
                found++;
            }
        }
        return found;
    }

    private void restPointer() {
        pointAt(ALL_NO);
    }

    private void pointAt(int table) {
        pointerTable = table;
        pointerStart = 0;
        pointerLevel = 0;
    }

    /** The LEVEL of the FORK at which the POINTER is; one behind the last if there is none. */
    private int pointerFork() {
        long[] table = tables[pointerTable];
        for (int k = pointerLevel; k < letterCount; k++) {
            int half = 1 << placeAt(k);
            if (!Bits.alike(table, pointerStart, table, pointerStart + half, half)) {
                return k;
            }
        }
        return letterCount;
    }

    /** What is done to tables of bits, 64 in a word. A place is a digit of a bit's number. */
    private static final class Bits {
        private static final int WORD_SHIFT = 6;
        private static final int WORD_BITS = 64;
        /** An odd number whose digits are mixed well. */
        private static final long SPREAD = 0x9E3779B97F4A7C15L;

        /** The bits of a word whose number has a 1 at a place. */
        private static final long[] ONE_AT = {
            0xAAAAAAAAAAAAAAAAL, 0xCCCCCCCCCCCCCCCCL, 0xF0F0F0F0F0F0F0F0L,
            0xFF00FF00FF00FF00L, 0xFFFF0000FFFF0000L, 0xFFFFFFFF00000000L
        };

        private static boolean has(long[] table, int bit) {
            return (table[bit >> WORD_SHIFT] >>> (bit & WORD_BITS - 1) & 1L) != 0L;
        }

        private static void mark(long[] table, int bit) {
            table[bit >> WORD_SHIFT] |= 1L << (bit & WORD_BITS - 1);
        }

        private static long lowOnes(int bits) {
            return bits >= WORD_BITS ? -1L : (1L << bits) - 1L;
        }

        private static long letterWord(int j, int place) {
            if (place < WORD_SHIFT) {
                return ONE_AT[place];
            }
            return (j >> place - WORD_SHIFT & 1) != 0 ? -1L : 0L;
        }

        private static long joinedWord(long a, long b, int table) {
            long word = 0L;
            if ((table & 1) != 0) {
                word |= ~a & ~b;
            }
            if ((table & 2) != 0) {
                word |= a & ~b;
            }
            if ((table & 4) != 0) {
                word |= ~a & b;
            }
            if ((table & 8) != 0) {
                word |= a & b;
            }
            return word;
        }

        private static long chosenWord(long which, long yes, long no) {
            return which & yes | ~which & no;
        }

        /** Word j of the table that comes of this one if the LETTER of a place is fixed. */
        private static long fixedWord(long[] table, int j, int place, boolean one) {
            if (place >= WORD_SHIFT) {
                int stride = 1 << place - WORD_SHIFT;
                return table[one ? j | stride : j & ~stride];
            }
            int shift = 1 << place;
            if (one) {
                long kept = table[j] & ONE_AT[place];
                return kept | kept >>> shift;
            }
            long kept = table[j] & ~ONE_AT[place];
            return kept | kept << shift;
        }

        /** Whether the parts of two tables that begin at these bits are the same; a length is a power of two. */
        private static boolean alike(long[] a, int aStart, long[] b, int bStart, int length) {
            if (length < WORD_BITS) {
                return shortPart(a, aStart, length) == shortPart(b, bStart, length);
            }
            int aWord = aStart >> WORD_SHIFT;
            int bWord = bStart >> WORD_SHIFT;
            int count = length >> WORD_SHIFT;
            for (int j = 0; j < count; j++) {
                if (a[aWord + j] != b[bWord + j]) {
                    return false;
                }
            }
            return true;
        }

        private static long shortPart(long[] table, int start, int length) {
            return table[start >> WORD_SHIFT] >>> (start & WORD_BITS - 1) & (1L << length) - 1L;
        }

        /** A number that parts which are the same have in common, and others hardly. */
        private static int hash(long[] table, int start, int length) {
            if (length < WORD_BITS) {
                return (int) (shortPart(table, start, length) * SPREAD >>> WORD_BITS / 2);
            }
            int first = start >> WORD_SHIFT;
            int count = length >> WORD_SHIFT;
            long hash = 0L;
            for (int j = 0; j < count; j++) {
                hash = (hash ^ table[first + j]) * SPREAD;
                // a product hands its low bits on to the high ones, never back
                hash ^= hash >>> WORD_BITS / 2;
            }
            return (int) hash;
        }

        /** The LETTERS of two places change places in the table. */
        private static void exchange(long[] table, int words, int p, int q) {
            int high = Math.max(p, q);
            int low = Math.min(p, q);
            if (high == low) {
                return;
            }
            if (high < WORD_SHIFT) {
                exchangeInWords(table, words, high, low);
            } else if (low < WORD_SHIFT) {
                exchangeAcrossWords(table, words, high, low);
            } else {
                exchangeWords(table, words, high, low);
            }
        }

        private static void exchangeInWords(long[] table, int words, int high, int low) {
            int shift = (1 << high) - (1 << low);
            long lower = ONE_AT[low] & ~ONE_AT[high];
            for (int j = 0; j < words; j++) {
                long word = table[j];
                long other = (word >>> shift ^ word) & lower;
                table[j] = word ^ other ^ other << shift;
            }
        }

        private static void exchangeAcrossWords(long[] table, int words, int high, int low) {
            int stride = 1 << high - WORD_SHIFT;
            int shift = 1 << low;
            for (int j = 0; j < words; j++) {
                if ((j & stride) == 0) {
                    long other = (table[j] >>> shift ^ table[j + stride]) & ~ONE_AT[low];
                    table[j + stride] ^= other;
                    table[j] ^= other << shift;
                }
            }
        }

        private static void exchangeWords(long[] table, int words, int high, int low) {
            int highStride = 1 << high - WORD_SHIFT;
            int lowStride = 1 << low - WORD_SHIFT;
            for (int j = 0; j < words; j++) {
                if ((j & highStride) == 0 && (j & lowStride) != 0) {
                    int partner = j + highStride - lowStride;
                    long word = table[j];
                    table[j] = table[partner];
                    table[partner] = word;
                }
            }
        }
    }

    /**
     * Counts FORKS: LEVEL by LEVEL it lists the FUNCTIONS below some tables, each once, and makes of
     * those of a LEVEL, cut in halves, those of the next. One is named by the number of its table
     * and behind that, in the last 12 digits, the bit at which it begins.
     */
    private static final class Survey {
        /**
         * 32 REGISTERS have at most 32 times 2 to the k FUNCTIONS below them at LEVEL k, and only 2 to
         * the 2 to the (12 - k) are there at all: the most are those 8192 of LEVEL 8.
         */
        private static final int MOST_FOUND = 8192;
        private static final int MOST_SLOTS = 2 * MOST_FOUND;

        private final int[] widths = new int[MOST_LETTERS];
        private int[] upper = new int[MOST_FOUND];
        private int[] found = new int[MOST_FOUND];
        private int foundCount;
        /** One more than the entry of what was found, by its hash; 0 where nothing is. */
        private final int[] slots = new int[MOST_SLOTS];
        private int slotCount;

        /** The FORKS of the tables from first to last, the spare one standing in for table replaced. */
        private int forksOf(long[][] tables, int first, int last, int replaced, int letterCount) {
            list(tables, first, last, replaced, letterCount);
            int forks = 0;
            for (int k = 0; k < letterCount; k++) {
                widths[k] = cut(tables, 1 << letterCount - 1 - k);
                forks += widths[k];
            }
            return forks;
        }

        /** Lists the FUNCTIONS of these tables themselves. */
        private void list(long[][] tables, int first, int last, int replaced, int letterCount) {
            clear(last - first + 1);
            for (int t = first; t <= last; t++) {
                find(tables, t == replaced ? SPARE : t, 0, 1 << letterCount);
            }
        }

        /** How many of those listed differ by the LETTER of their LEVEL. */
        private int forksListed(long[][] tables, int half) {
            int forks = 0;
            for (int i = 0; i < foundCount; i++) {
                long[] table = tables[found[i] >> MOST_LETTERS];
                int start = found[i] & MOST_ASSIGNMENTS - 1;
                if (!Bits.alike(table, start, table, start + half, half)) {
                    forks++;
                }
            }
            return forks;
        }

        /** Goes to the next LEVEL: how many of those of the old one had two halves that differ. */
        private int cut(long[][] tables, int half) {
            int[] list = found;
            found = upper;
            upper = list;
            int count = foundCount;
            clear(2 * count);
            int forks = 0;
            for (int i = 0; i < count; i++) {
                int number = upper[i] >> MOST_LETTERS;
                int start = upper[i] & MOST_ASSIGNMENTS - 1;
                find(tables, number, start, half);
                if (!Bits.alike(tables[number], start, tables[number], start + half, half)) {
                    find(tables, number, start + half, half);
                    forks++;
                }
            }
            return forks;
        }

        /** As few slots are cleared as will do, since most webs are small. */
        private void clear(int expected) {
            slotCount = 2;
            while (slotCount < 2 * expected && slotCount < MOST_SLOTS) {
                slotCount *= 2;
            }
            Arrays.fill(slots, 0, slotCount, 0);
            foundCount = 0;
        }

        private void find(long[][] tables, int number, int start, int length) {
            long[] table = tables[number];
            int slot = Bits.hash(table, start, length) & slotCount - 1;
            for (int tried = 0; tried < slotCount; tried++) {
                int entry = slots[slot] - 1;
                if (entry < 0) {
                    note(slot, number << MOST_LETTERS | start);
                    return;
                }
                long[] other = tables[found[entry] >> MOST_LETTERS];
                if (Bits.alike(table, start, other, found[entry] & MOST_ASSIGNMENTS - 1, length)) {
                    return;
                }
                slot = slot + 1 & slotCount - 1;
            }
        }

        private void note(int slot, int name) {
            if (foundCount < MOST_FOUND) {
                found[foundCount] = name;
                foundCount++;
                slots[slot] = foundCount;
            }
        }
    }
}
