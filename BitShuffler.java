/**
 * Makes programs that move the bits of a word to where they are wanted, for four kinds of
 * machines; runs them, finds by symbols from which bits each bit of the result comes, and tells
 * whether that is what was wanted.
 */
public final class BitShuffler {
    public static final int ZERO = 64;
    public static final int ONE = 65;

    private static final int MOST_BITS = 64;
    private static final int FIRST_WIDTH = 8;
    private static final int MOST_KEPT = 8;
    /** Each bit of the result needs three steps at most, and a SET stands only where a bit needs none. */
    private static final int MOST_STEPS = 3 * MOST_BITS;

    private static final int SHIFT = 0;
    private static final int ROTATE = 1;
    private static final int MASK = 2;
    private static final int OR = 3;
    private static final int SET = 4;
    private static final int SWAP = 5;
    private static final int MOVE = 6;
    private static final int GATHER = 7;
    private static final int SCATTER = 8;

    private static final int SHIFTS = 0;
    private static final int ROTATIONS = 1;
    private static final int SWAPS = 2;
    private static final int GATHERS = 3;

    private static final int WIDEST_SEARCH = 4;
    /** One swap can put one place right, and when all others are right the last one is too. */
    private static final int MOST_SWAPS_NEEDED = WIDEST_SEARCH - 1;
    /** How many bits of a long hold the number of one place in the search. */
    private static final int FIELD = 4;
    private static final long FULL_FIELD = 15L;

    private final BitMap map;
    private final BitMap former;
    private final BitMap[] kept;
    private int keptCount;
    private final Program program;
    private final WordMachine machine;
    private final Symbols symbols;
    private final SwapPlan swapPlan;
    private final GatherPlan gatherPlan;

    public BitShuffler() {
        map = new BitMap();
        former = new BitMap();
        kept = new BitMap[MOST_KEPT];
        for (int k = 0; k < MOST_KEPT; k++) {
            kept[k] = new BitMap();
        }
        keptCount = 0;
        program = new Program();
        machine = new WordMachine();
        symbols = new Symbols();
        swapPlan = new SwapPlan();
        gatherPlan = new GatherPlan();
        map.becomeIdentity(FIRST_WIDTH);
    }

    public void width(int n) throws IllegalArgumentException {
        if (n < 1 || n > MOST_BITS) {
            throw new IllegalArgumentException();
        }
        map.becomeIdentity(n);
        program.clear();
    }

    public void target(int bit, int source) throws IllegalArgumentException {
        requireBit(bit);
        if (!map.hasSource(source)) {
            throw new IllegalArgumentException();
        }
        map.setSource(bit, source);
    }

    public int source(int bit) throws IllegalArgumentException {
        requireBit(bit);
        return map.sourceOf(bit);
    }

    public int make(int kind) throws IllegalArgumentException, UnsupportedOperationException {
        if (kind < SHIFTS || kind > GATHERS) {
            throw new IllegalArgumentException();
        }
        if (kind == SWAPS && !(map.isPermutation() && isPowerOfTwo(map.bits()))) {
            throw new UnsupportedOperationException();
        }
        program.clear();
        if (kind == SHIFTS) {
            writeShifts();
        } else if (kind == ROTATIONS) {
            writeRotations();
        } else if (kind == SWAPS) {
            swapPlan.write(map, program);
        } else {
            gatherPlan.write(map, program);
        }
        return program.length();
    }

    public int size() {
        return program.length();
    }

    public int step(int i, boolean distance) throws IndexOutOfBoundsException {
        requireStep(i);
        return distance ? program.amountAt(i) : program.opAt(i);
    }

    public long mask(int i) throws IndexOutOfBoundsException {
        requireStep(i);
        return program.maskAt(i);
    }

    public void patch(int i, int amount, long mask)
            throws IndexOutOfBoundsException, IllegalArgumentException {
        requireStep(i);
        if (!fitsOp(program.opAt(i), amount, mask, map.bits())) {
            throw new IllegalArgumentException();
        }
        program.change(i, amount, mask);
    }

    public long run(long word) {
        return machine.resultOf(program, word, map.bits());
    }

    public long direct(long word) {
        return map.imageOf(word);
    }

    public int check() {
        symbols.trace(program, map.bits());
        for (int k = 0; k < map.bits(); k++) {
            if (!symbols.isRight(k, map.sourceOf(k))) {
                return k + 1;
            }
        }
        return 0;
    }

    public long origins(int bit) throws IllegalArgumentException {
        requireBit(bit);
        symbols.trace(program, map.bits());
        return symbols.setOf(bit);
    }

    public boolean constant(int bit) throws IllegalArgumentException {
        requireBit(bit);
        symbols.trace(program, map.bits());
        return symbols.hasOne(bit);
    }

    public int ticks() {
        return program.allTicks();
    }

    public int keep() throws IllegalStateException {
        if (keptCount >= MOST_KEPT) {
            throw new IllegalStateException();
        }
        kept[keptCount].becomeCopy(map);
        keptCount++;
        return keptCount - 1;
    }

    public void join(int k) throws IllegalArgumentException, IllegalStateException {
        if (k < 0 || k >= keptCount) {
            throw new IllegalArgumentException();
        }
        if (kept[k].bits() != map.bits()) {
            throw new IllegalStateException();
        }
        former.becomeCopy(map);
        map.becomeJoined(former, kept[k]);
    }

    public void invert() throws UnsupportedOperationException {
        if (!map.isPermutation()) {
            throw new UnsupportedOperationException();
        }
        former.becomeCopy(map);
        map.becomeInverse(former);
    }

    public int least() throws UnsupportedOperationException {
        if (map.bits() > WIDEST_SEARCH || !map.isPermutation()) {
            throw new UnsupportedOperationException();
        }
        int f = fewestSwaps(); map.becomeIdentity(map.bits()); return f;
    }

    private void requireBit(int bit) {
        if (!map.hasBit(bit)) {
            throw new IllegalArgumentException();
        }
    }

    private void requireStep(int i) {
        if (i < 0 || i >= program.length()) {
            throw new IndexOutOfBoundsException();
        }
    }

    private void writeShifts() {
        for (int d = 1 - map.bits(); d < map.bits(); d++) {
            program.appendMove(SHIFT, d, map.bitsShifted(d));
        }
        program.appendSet(map.bitsThatAreOne());
    }

    private void writeRotations() {
        for (int d = 0; d < map.bits(); d++) {
            program.appendMove(ROTATE, d, map.bitsRotated(d));
        }
        program.appendSet(map.bitsThatAreOne());
    }

    private int fewestSwaps() {
        long unmoved = 0;
        long wanted = 0;
        for (int k = 0; k < map.bits(); k++) {
            unmoved |= (long) k << (FIELD * k);
            wanted |= (long) map.sourceOf(k) << (FIELD * k);
        }
        for (int swaps = 0; swaps < MOST_SWAPS_NEEDED; swaps++) {
            if (canArrange(unmoved, wanted, map.bits(), swaps)) {
                return swaps;
            }
        }
        return MOST_SWAPS_NEEDED;
    }

    /** Whether so many swaps or fewer make the wanted places of the given ones. */
    private static boolean canArrange(long places, long wanted, int bits, int swapsLeft) {
        if (places == wanted) {
            return true;
        }
        if (swapsLeft <= 0) {
            return false;
        }
        for (int d = 1; d < bits; d++) {
            for (long m = 1; m <= allBits(bits); m++) {
                if (fitsSwap(d, m, bits)
                        && canArrange(exchanged(places, FIELD * d, fieldsOf(m)), wanted, bits, swapsLeft - 1)) {
                    return true;
                }
            }
        }
        return false;
    }

    private static long fieldsOf(long m) {
        long fields = 0;
        for (int k = 0; k < WIDEST_SEARCH; k++) {
            if (holds(m, k)) {
                fields |= FULL_FIELD << (FIELD * k);
            }
        }
        return fields;
    }

    /** Whether a step with the op may have the amount and the mask. */
    private static boolean fitsOp(int op, int amount, long mask, int bits) {
        switch (op) {
            case SHIFT:
                return -bits < amount && amount < bits && mask == 0;
            case ROTATE:
                return 0 <= amount && amount < bits && mask == 0;
            case OR:
            case MOVE:
                return amount == 0 && mask == 0;
            case SWAP:
                return fitsSwap(amount, mask, bits);
            default:
                return amount == 0 && fitsWidth(mask, bits);
        }
    }

    private static boolean fitsWidth(long mask, int bits) {
        return (mask & ~allBits(bits)) == 0;
    }

    private static boolean fitsSwap(int d, long mask, int bits) {
        if (d <= 0 || d >= bits) {
            return false;
        }
        // the partners of all bits must have a place: so the mask ends d places below the width
        return fitsWidth(mask, bits - d) && (mask & (mask << d)) == 0;
    }

    private static long allBits(int bits) {
        return -1L >>> (MOST_BITS - bits);
    }

    private static boolean holds(long set, int bit) {
        return ((set >>> bit) & 1L) != 0;
    }

    private static boolean isPowerOfTwo(int n) {
        return Integer.bitCount(n) == 1;
    }

    /** The word with the bits k and k + d in each other's places, for each bit k of the mask. */
    private static long exchanged(long word, int d, long mask) {
        long different = (word ^ (word >>> d)) & mask;
        return word ^ different ^ (different << d);
    }

    /** The map: from where each bit of the result comes. */
    private static final class BitMap {
        private final int[] sources;
        private int bits;

        BitMap() {
            sources = new int[MOST_BITS];
            bits = 1;
        }

        int bits() {
            return bits;
        }

        boolean hasBit(int bit) {
            return bit >= 0 && bit < bits;
        }

        boolean hasSource(int source) {
            return hasBit(source) || source == ZERO || source == ONE;
        }

        int sourceOf(int bit) {
            return sources[bit];
        }

        void setSource(int bit, int source) {
            sources[bit] = source;
        }

        void becomeIdentity(int n) {
            bits = n;
            for (int k = 0; k < n; k++) {
                sources[k] = k;
            }
        }

        void becomeCopy(BitMap other) {
            bits = other.bits;
            System.arraycopy(other.sources, 0, sources, 0, MOST_BITS);
        }

        /** The map that does the first one and then the second; both are other objects than this one. */
        void becomeJoined(BitMap first, BitMap second) {
            bits = second.bits;
            for (int k = 0; k < bits; k++) {
                sources[k] = second.comesFromWord(k) ? first.sources[second.sources[k]] : second.sources[k];
            }
        }

        /** The inverse of another object's map, which is a permutation. */
        void becomeInverse(BitMap other) {
            bits = other.bits;
            for (int k = 0; k < bits; k++) {
                if (other.comesFromWord(k)) {
                    sources[other.sources[k]] = k;
                }
            }
        }

        boolean comesFromWord(int bit) {
            return sources[bit] < MOST_BITS;
        }

        boolean isPermutation() {
            long seen = 0;
            for (int k = 0; k < bits; k++) {
                if (!comesFromWord(k) || holds(seen, sources[k])) {
                    return false;
                }
                seen |= 1L << sources[k];
            }
            return true;
        }

        long imageOf(long word) {
            long image = bitsThatAreOne();
            for (int k = 0; k < bits; k++) {
                if (comesFromWord(k) && holds(word, sources[k])) {
                    image |= 1L << k;
                }
            }
            return image;
        }

        long bitsThatAreOne() {
            long found = 0;
            for (int k = 0; k < bits; k++) {
                if (sources[k] == ONE) {
                    found |= 1L << k;
                }
            }
            return found;
        }

        long bitsShifted(int d) {
            long found = 0;
            for (int k = 0; k < bits; k++) {
                if (comesFromWord(k) && k - sources[k] == d) {
                    found |= 1L << k;
                }
            }
            return found;
        }

        long bitsRotated(int d) {
            return bitsShifted(d) | bitsShifted(d - bits);
        }
    }

    /** A row of steps, each with an op, an amount and a mask. */
    private static final class Program {
        private static final int[] TICKS_OF_OPS = {1, 1, 1, 1, 1, 6, 1, 3, 3};

        private final int[] ops;
        private final int[] amounts;
        private final long[] masks;
        private int length;

        Program() {
            ops = new int[MOST_STEPS];
            amounts = new int[MOST_STEPS];
            masks = new long[MOST_STEPS];
            length = 0;
        }

        int length() {
            return length;
        }

        int opAt(int i) {
            return ops[i];
        }

        int amountAt(int i) {
            return amounts[i];
        }

        long maskAt(int i) {
            return masks[i];
        }

        void clear() {
            length = 0;
        }

        void change(int i, int amount, long mask) {
            amounts[i] = amount;
            masks[i] = mask;
        }

        void append(int op, int amount, long mask) {
            if (length < MOST_STEPS) {
                ops[length] = op;
                change(length, amount, mask);
                length++;
            }
        }

        /** Brings the bits of the mask into the result by a SHIFT or ROTATE, if there are any. */
        void appendMove(int op, int amount, long mask) {
            if (mask != 0) {
                append(op, amount, 0);
                append(MASK, 0, mask);
                append(OR, 0, 0);
            }
        }

        void appendSet(long mask) {
            if (mask != 0) {
                append(SET, 0, mask);
            }
        }

        void appendSwap(int amount, long mask) {
            if (mask != 0) {
                append(SWAP, amount, mask);
            }
        }

        int allTicks() {
            int sum = 0;
            for (int i = 0; i < length; i++) {
                sum += TICKS_OF_OPS[ops[i]];
            }
            return sum;
        }
    }

    /** Runs a program on a word. */
    private static final class WordMachine {
        private int bits;
        private long a;
        private long t;
        private long r;

        WordMachine() {
            bits = 1;
        }

        long resultOf(Program program, long word, int width) {
            bits = width;
            a = word & allBits(bits);
            t = 0;
            r = 0;
            for (int i = 0; i < program.length(); i++) {
                perform(program.opAt(i), program.amountAt(i), program.maskAt(i));
            }
            return r;
        }

        private void perform(int op, int d, long m) {
            switch (op) {
                case SHIFT:
                    t = (d >= 0 ? a << d : a >>> -d) & allBits(bits);
                    break;
                case ROTATE:
                    t = rotated(d);
                    break;
                case MASK:
                    t &= m;
                    break;
                case OR:
                    r |= t;
                    break;
                case SET:
                    r |= m;
                    break;
                case SWAP:
                    a = exchanged(a, d, m);
                    break;
                case MOVE:
                    r |= a;
                    break;
                case GATHER:
                    t = gathered(m);
                    break;
                default:
                    t = scattered(m);
                    break;
            }
        }

        private long rotated(int d) {
            // Java takes a shift by 64 for one by 0, which does no harm here: a or a is a
            return ((a << d) | (a >>> (bits - d))) & allBits(bits);
        }

        private long gathered(long m) {
            long result = 0;
            int next = 0;
            for (int k = 0; k < bits; k++) {
                if (holds(m, k)) {
                    result |= ((a >>> k) & 1L) << next;
                    next++;
                }
            }
            return result;
        }

        private long scattered(long m) {
            long result = 0;
            int next = 0;
            for (int k = 0; k < bits; k++) {
                if (holds(m, k)) {
                    result |= ((t >>> next) & 1L) << k;
                    next++;
                }
            }
            return result;
        }
    }

    /**
     * Runs a program by symbols: instead of a bit, each place has the set of bits of the given
     * word of which it is the or. Only a SET brings in a 1, and only into R: so one set of places
     * says where R is or with 1.
     */
    private static final class Symbols {
        private final long[] a;
        private final long[] t;
        private final long[] r;
        private long ones;
        private int bits;

        Symbols() {
            a = new long[MOST_BITS];
            t = new long[MOST_BITS];
            r = new long[MOST_BITS];
            ones = 0;
            bits = 1;
        }

        void trace(Program program, int width) {
            bits = width;
            ones = 0;
            for (int k = 0; k < bits; k++) {
                a[k] = 1L << k;
                t[k] = 0;
                r[k] = 0;
            }
            for (int i = 0; i < program.length(); i++) {
                perform(program.opAt(i), program.amountAt(i), program.maskAt(i));
            }
        }

        long setOf(int bit) {
            return r[bit];
        }

        boolean hasOne(int bit) {
            return holds(ones, bit);
        }

        boolean isRight(int bit, int source) {
            if (source == ONE) {
                return hasOne(bit);
            }
            long due = source == ZERO ? 0 : 1L << source;
            return r[bit] == due && !hasOne(bit);
        }

        private void perform(int op, int d, long m) {
            switch (op) {
                case SHIFT:
                    shift(d);
                    break;
                case ROTATE:
                    rotate(d);
                    break;
                case MASK:
                    clearOutside(m);
                    break;
                case OR:
                    addToResult(t);
                    break;
                case SET:
                    ones |= m;
                    break;
                case SWAP:
                    swap(d, m);
                    break;
                case MOVE:
                    addToResult(a);
                    break;
                case GATHER:
                    gather(m);
                    break;
                default:
                    scatter(m);
                    break;
            }
        }

        private void shift(int d) {
            for (int k = 0; k < bits; k++) {
                int from = k - d;
                t[k] = from >= 0 && from < bits ? a[from] : 0;
            }
        }

        private void rotate(int d) {
            for (int k = 0; k < bits; k++) {
                t[k] = a[k >= d ? k - d : k - d + bits];
            }
        }

        private void clearOutside(long m) {
            for (int k = 0; k < bits; k++) {
                if (!holds(m, k)) {
                    t[k] = 0;
                }
            }
        }

        private void addToResult(long[] row) {
            for (int k = 0; k < bits; k++) {
                r[k] |= row[k];
            }
        }

        private void swap(int d, long m) {
            for (int k = 0; k + d < bits; k++) {
                if (holds(m, k)) {
                    long lower = a[k];
                    a[k] = a[k + d];
                    a[k + d] = lower;
                }
            }
        }

        private void gather(long m) {
            int next = 0;
            for (int k = 0; k < bits; k++) {
                if (holds(m, k)) {
                    t[next] = a[k];
                    next++;
                }
            }
            for (int k = next; k < bits; k++) {
                t[k] = 0;
            }
        }

        private void scatter(long m) {
            int next = Long.bitCount(m);
            // from the highest place down, so that no place is written before it has been read
            for (int k = bits - 1; k >= 0; k--) {
                if (holds(m, k) && next > 0) {
                    next--;
                    t[k] = t[next];
                } else {
                    t[k] = 0;
                }
            }
        }
    }

    /**
     * Finds the swaps of a permutation. All blocks of one size are handled together, and their
     * places are those in the whole word: as the sizes are powers of 2, the place that is h apart
     * from p in its block is p ^ h, and p is in the lower half if p has not the bit h.
     */
    private static final class SwapPlan {
        private static final int MOST_SIZES = 6;

        private final int[] wanted;
        private final int[] wanters;
        private final long[] lastMasks;
        private int bits;
        private long decided;
        private long goingThroughUpper;
        private long comingThroughUpper;

        SwapPlan() {
            wanted = new int[MOST_BITS];
            wanters = new int[MOST_BITS];
            lastMasks = new long[MOST_SIZES];
            bits = 1;
        }

        /** Appends the swaps and the MOVE; the map is a permutation, its width a power of 2. */
        void write(BitMap map, Program program) {
            bits = map.bits();
            for (int p = 0; p < bits; p++) {
                wanted[p] = map.sourceOf(p);
            }
            int sizes = 0;
            // with h = 1 the first swap is the one of a block of 2, and the last one has no bits
            for (int h = bits / 2; h > 0 && sizes < MOST_SIZES; h /= 2) {
                decideWays(h);
                program.appendSwap(h, lowerPlaces(goingThroughUpper, h));
                lastMasks[sizes] = lowerPlaces(comingThroughUpper, h);
                sizes++;
                divideBlocks(h);
            }
            for (int size = sizes - 1; size >= 0; size--) {
                program.appendSwap(bits >> (size + 1), lastMasks[size]);
            }
            program.append(MOVE, 0, 0);
        }

        private void decideWays(int h) {
            decided = 0;
            goingThroughUpper = 0;
            comingThroughUpper = 0;
            for (int p = 0; p < bits; p++) {
                wanters[wanted[p]] = p;
            }
            for (int p = 0; p < bits; p++) {
                if ((p & h) == 0) {
                    followWays(p, h);
                }
            }
        }

        private void followWays(int first, int h) {
            int place = first;
            for (int turn = 0; turn < bits && !holds(decided, place); turn++) {
                int upperSource = wanted[place] ^ h;
                int upperPlace = wanters[upperSource];
                goingThroughUpper |= 1L << upperSource;
                comingThroughUpper |= 1L << upperPlace;
                decided |= (1L << place) | (1L << upperPlace);
                place = upperPlace ^ h;
            }
        }

        private long lowerPlaces(long places, int h) {
            long found = 0;
            for (int p = 0; p < bits; p++) {
                if ((p & h) == 0 && holds(places, p)) {
                    found |= 1L << p;
                }
            }
            return found;
        }

        private void divideBlocks(int h) {
            for (int p = 0; p < bits; p++) {
                if ((p & h) == 0) {
                    boolean crossed = holds(comingThroughUpper, p);
                    int throughLower = wanted[crossed ? p ^ h : p];
                    int throughUpper = wanted[crossed ? p : p ^ h];
                    wanted[p] = throughLower & ~h;
                    wanted[p ^ h] = throughUpper | h;
                }
            }
        }
    }

    /** Puts the bits of the result into groups that one GATHER and one SCATTER bring. */
    private static final class GatherPlan {
        private final long[] groupSources;
        private final long[] groupBits;
        private int groups;

        GatherPlan() {
            groupSources = new long[MOST_BITS];
            groupBits = new long[MOST_BITS];
            groups = 0;
        }

        void write(BitMap map, Program program) {
            groups = 0;
            for (int k = 0; k < map.bits(); k++) {
                if (map.comesFromWord(k)) {
                    put(k, map.sourceOf(k));
                }
            }
            for (int g = 0; g < groups; g++) {
                program.append(GATHER, 0, groupSources[g]);
                program.append(SCATTER, 0, groupBits[g]);
                program.append(OR, 0, 0);
            }
            program.appendSet(map.bitsThatAreOne());
        }

        private void put(int bit, int source) {
            int g = 0;
            // the sources of a group rise, so the last one is lower if all are
            while (g < groups && (groupSources[g] >>> source) != 0) {
                g++;
            }
            if (g == groups && groups < MOST_BITS) {
                groupSources[g] = 0;
                groupBits[g] = 0;
                groups++;
            }
            if (g < groups) {
                groupSources[g] |= 1L << source;
                groupBits[g] |= 1L << bit;
            }
        }
    }
}
