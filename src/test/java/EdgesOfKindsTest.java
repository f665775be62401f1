import java.util.Arrays;

/**
 * The edges that the document names for the kinds of programs, and those of promise 5, make. The
 * remark of each test is the sentence that it is for.
 */
public final class EdgesOfKindsTest {
    private static final String NOT_SUPPORTED = "throws.UnsupportedOperationException";

    public static void main(String[] args) {
        shiftsFromTheLowestDistance();
        shiftsAtTheHighestBits();
        setOnlyIfThereAreOnes();
        setAtTheHighestBits();
        rotationsModuloTheWidth();
        rotationsOfTheLeastAndTheGreatestDistance();
        rotationsAndTheSet();
        swapsOfPowersOfTwo();
        swapsOfPermutations();
        swapsOfOneAndTwoBits();
        swapsWithoutABit();
        swapsWithAllDistances();
        blocksOfTwo();
        blocksOfFour();
        leastPlaceUndecided();
        apartFromEachOther();
        untilOneIsDecided();
        firstAndLastSwap();
        halvesAreBlocks();
        blocksAsTheDocumentHasThem();
        gathersOfBitsWithASource();
        gathersIntoTheFirstGroup();
        gathersIntoNewGroups();
        groupsFromTheFirst();
        gathersAtTheHighestBits();
        thenTheSet();
        howManySteps();
        shorterBehindLonger();
        behindOthersOfItsKind();
        noSuchKind();
        noMapForTheKind();
        anyMapForTheOtherKinds();
        Due.end();
    }

    private static void made(String due, int kind, int... sources) {
        BitShuffler x = Look.of(sources);
        Due.same("kind " + kind + " of " + Look.map(x, sources.length), Look.made(x, kind), due);
    }

    /** 64 bits, all ZERO but for pairs of a bit and its source. */
    private static BitShuffler wide(int... pairs) {
        BitShuffler x = new BitShuffler();
        x.width(64);
        for (int k = 0; k < 64; k++) {
            x.target(k, 64);
        }
        for (int i = 0; i < pairs.length; i += 2) {
            x.target(pairs[i], pairs[i + 1]);
        }
        return x;
    }

    /**
     * "SHIFTS: for each distance d, from the lowest one on, for which there are bits k that come
     * from k - d: SHIFT by d, MASK with these k, OR."
     */
    private static void shiftsFromTheLowestDistance() {
        made("0:0:0 2:0:1 3:0:0", 0, 0);
        made("0:-1:0 2:0:1 3:0:0 0:1:0 2:0:2 3:0:0", 0, 1, 0);
        made("0:-2:0 2:0:1 3:0:0 0:0:0 2:0:2 3:0:0 0:2:0 2:0:4 3:0:0", 0, 2, 1, 0);
        made("0:2:0 2:0:4 3:0:0", 0, 64, 64, 0);
        made("0:-2:0 2:0:1 3:0:0", 0, 2, 64, 64);
        made("", 0, 64, 64, 64);
    }

    /**
     * "SHIFTS: for each distance d, from the lowest one on, for which there are bits k that come
     * from k - d: SHIFT by d, MASK with these k, OR." The distances -63 and 63, the bits 31, 32, 63.
     */
    private static void shiftsAtTheHighestBits() {
        Due.same("the least and the greatest distance", Look.made(wide(0, 63, 63, 0), 0),
                "0:-63:0 2:0:1 3:0:0 0:63:0 2:0:8000000000000000 3:0:0");
        Due.same("bits 31 and 32", Look.made(wide(31, 32, 32, 31), 0),
                "0:-1:0 2:0:80000000 3:0:0 0:1:0 2:0:100000000 3:0:0");
        Due.same("bits 31, 32 and 63 from themselves", Look.made(wide(31, 31, 32, 32, 63, 63), 0),
                "0:0:0 2:0:8000000180000000 3:0:0");
        Due.same("all bits", Look.made(wide(), 0), "");
    }

    /** "Then, if there are bits that are ONE: SET with these." */
    private static void setOnlyIfThereAreOnes() {
        for (int kind : new int[] {0, 1, 3}) {
            made("", kind, 64);
            made("4:0:1", kind, 65);
            made("", kind, 64, 64);
            made("4:0:2", kind, 64, 65);
            made("4:0:3", kind, 65, 65);
        }
        made("0:0:0 2:0:1 3:0:0", 0, 0, 64);
        made("0:0:0 2:0:1 3:0:0 4:0:2", 0, 0, 65);
        made("1:0:0 2:0:1 3:0:0 4:0:2", 1, 0, 65);
    }

    /** "Then, if there are bits that are ONE: SET with these." The bits 31, 32 and 63, and all of them. */
    private static void setAtTheHighestBits() {
        for (int kind : new int[] {0, 1, 3}) {
            Due.same("bit 31", Look.made(wide(31, 65), kind), "4:0:80000000");
            Due.same("bit 32", Look.made(wide(32, 65), kind), "4:0:100000000");
            Due.same("bit 63", Look.made(wide(63, 65), kind), "4:0:8000000000000000");
            BitShuffler x = new BitShuffler();
            x.width(64);
            for (int k = 0; k < 64; k++) {
                x.target(k, 65);
            }
            Due.same("all bits", Look.made(x, kind), "4:0:ffffffffffffffff");
        }
    }

    /** "ROTATIONS: likewise, d being the distance modulo the width" */
    private static void rotationsModuloTheWidth() {
        // the distances -2, -1 and 2 are 1, 2 and 2 modulo 3
        made("1:1:0 2:0:1 3:0:0 1:2:0 2:0:6 3:0:0", 1, 2, 2, 0);
        // -3 and 1 are the same modulo 4
        made("1:1:0 2:0:f 3:0:0", 1, 3, 0, 1, 2);
        // -1 is 4 modulo 5, and comes last
        made("1:0:0 2:0:1 3:0:0 1:4:0 2:0:2 3:0:0", 1, 0, 2, 64, 64, 64);
        made("", 1, 64, 64, 64);
    }

    /** "ROTATIONS: likewise, d being the distance modulo the width" The amounts 0 and width - 1. */
    private static void rotationsOfTheLeastAndTheGreatestDistance() {
        made("1:0:0 2:0:1 3:0:0", 1, 0);
        made("1:1:0 2:0:3 3:0:0", 1, 1, 0);
        Due.same("1 and 63", Look.made(wide(0, 63, 63, 0), 1),
                "1:1:0 2:0:1 3:0:0 1:63:0 2:0:8000000000000000 3:0:0");
        Due.same("0 and 63", Look.made(wide(32, 32, 31, 32), 1),
                "1:0:0 2:0:100000000 3:0:0 1:63:0 2:0:80000000 3:0:0");
        Due.same("-63 and 1 are one", Look.made(wide(0, 63, 32, 31), 1), "1:1:0 2:0:100000001 3:0:0");
        Due.same("-32 and 32 are one", Look.made(wide(31, 63, 63, 31), 1), "1:32:0 2:0:8000000080000000 3:0:0");
    }

    /** "ROTATE by d, MASK, OR, and the SET." */
    private static void rotationsAndTheSet() {
        made("4:0:1", 1, 65);
        made("1:0:0 2:0:1 3:0:0 4:0:2", 1, 0, 65);
        made("1:2:0 2:0:4 3:0:0 4:0:3", 1, 65, 65, 0);
        Due.same("at bit 63", Look.made(wide(0, 63, 63, 65), 1), "1:1:0 2:0:1 3:0:0 4:0:8000000000000000");
        Due.same("from bit 63", Look.made(wide(32, 63, 31, 65), 1), "1:33:0 2:0:100000000 3:0:0 4:0:80000000");
    }

    /** "SWAPS, for permutations of a width that is a power of 2" Each width from 1 to 64. */
    private static void swapsOfPowersOfTwo() {
        for (int n = 1; n <= 64; n++) {
            BitShuffler x = new BitShuffler();
            x.width(n);
            boolean power = n == 1 || n == 2 || n == 4 || n == 8 || n == 16 || n == 32 || n == 64;
            Due.same("make(2) at width " + n, Look.made(x, 2), power ? "6:0:0" : NOT_SUPPORTED);
        }
    }

    /** "SWAPS, for permutations of a width that is a power of 2" One bit alone makes it none. */
    private static void swapsOfPermutations() {
        for (int n = 1; n <= 64; n *= 2) {
            notBySwaps(n, 0, 64);
            notBySwaps(n, n - 1, 65);
            if (n > 1) {
                notBySwaps(n, 0, n - 1);
                notBySwaps(n, n - 1, 0);
            }
        }
    }

    private static void notBySwaps(int width, int bit, int source) {
        BitShuffler x = new BitShuffler();
        x.width(width);
        x.target(bit, source);
        Due.unsupported("make(2) at width " + width + ", bit " + bit + " from " + source, () -> x.make(2));
        Due.same("size() behind it", x.size(), 0);
        x.target(bit, bit);
        Due.same("make(2) at width " + width + ", bit " + bit + " from itself", x.make(2), 1);
    }

    /** "(for the width 2: 1 alone; for 1: none)" */
    private static void swapsOfOneAndTwoBits() {
        made("6:0:0", 2, 0);
        made("5:1:1 6:0:0", 2, 1, 0);
        made("6:0:0", 2, 0, 1);
    }

    /** "those without a bit in their mask left out; and then MOVE." */
    private static void swapsWithoutABit() {
        for (int n = 1; n <= 64; n *= 2) {
            BitShuffler x = new BitShuffler();
            x.width(n);
            Due.same("no swap at width " + n, Look.made(x, 2), "6:0:0");
        }
        made("5:1:5 6:0:0", 2, 1, 0, 3, 2);
        made("5:1:4 6:0:0", 2, 0, 1, 3, 2);
        made("5:2:3 6:0:0", 2, 2, 3, 0, 1);
        made("5:2:2 5:1:5 6:0:0", 2, 3, 0, 1, 2);
        // the sources 0 and 1 go through the lower half, but place 1 comes through the upper one
        made("5:1:1 5:2:2 6:0:0", 2, 1, 3, 2, 0);
    }

    /** "SWAPs with the distances width / 2, width / 4, .. 2, 1, 2, .. width / 4, width / 2" */
    private static void swapsWithAllDistances() {
        made("5:2:1 5:1:1 5:2:2 6:0:0", 2, 1, 3, 0, 2);
        for (int n = 8; n <= 64; n *= 2) {
            BitShuffler x = Look.of(shuffled(n));
            int half = Integer.numberOfTrailingZeros(n);
            Due.same("width " + n + ": make(2)", x.make(2), 2 * half);
            for (int i = 0; i < 2 * half - 1; i++) {
                Due.same("width " + n + ", step " + i + ": op", x.step(i, false), 5);
                Due.same("width " + n + ", step " + i, x.step(i, true), i < half ? n >> (i + 1) : 2 << (i - half));
                Due.yes("width " + n + ", step " + i + ": has a bit", x.mask(i) != 0);
            }
            Due.same("width " + n + ": the last op", x.step(2 * half - 1, false), 6);
            Due.same("width " + n + ": check()", x.check(), 0);
        }
    }

    /** A permutation without any order, the same each time. */
    private static int[] shuffled(int n) {
        int[] sources = new int[n];
        int next = 12345;
        for (int k = 0; k < n; k++) {
            next = next * 1103515245 + 12345;
            int at = (next >>> 16) % (k + 1);
            sources[k] = sources[at];
            sources[at] = k;
        }
        return sources;
    }

    /** "For n = 2 the one swap is done if its first place wants the second." */
    private static void blocksOfTwo() {
        made("6:0:0", 2, 0, 1);
        made("5:1:1 6:0:0", 2, 1, 0);
        made("5:1:1 6:0:0", 2, 1, 0, 2, 3);
        made("5:1:4 6:0:0", 2, 0, 1, 3, 2);
        made("5:1:55 6:0:0", 2, 1, 0, 3, 2, 5, 4, 7, 6);
        made("5:1:40 6:0:0", 2, 0, 1, 2, 3, 4, 5, 7, 6);
    }

    /**
     * "For n > 2 let h be n / 2; the block has a first swap and a last one with the distance h, and
     * between them its lower half and its upper half are blocks." The least block with both, which is
     * also the half of a greater one.
     */
    private static void blocksOfFour() {
        made("5:2:1 5:1:1 5:2:2 6:0:0", 2, 1, 3, 0, 2);
        made("5:2:1 5:1:1 5:2:2 6:0:0", 2, 1, 3, 0, 2, 4, 5, 6, 7);
        made("5:2:10 5:1:10 5:2:20 6:0:0", 2, 0, 1, 2, 3, 5, 7, 4, 6);
        made("5:2:11 5:1:11 5:2:22 6:0:0", 2, 1, 3, 0, 2, 5, 7, 4, 6);
    }

    /**
     * "It is decided which places i of the block come THROUGH the lower half: as long as there is a
     * place r below h undecided, for the least one: r comes through the lower half"
     */
    private static void leastPlaceUndecided() {
        // place 0 comes through the lower half though its source is an upper one: the first swap, not the last
        made("5:2:1 6:0:0", 2, 2, 1, 0, 3);
        made("5:2:2 6:0:0", 2, 0, 3, 2, 1);
        made("5:4:1 6:0:0", 2, 4, 1, 2, 3, 0, 5, 6, 7);
        made("5:4:8 6:0:0", 2, 0, 1, 2, 7, 4, 5, 6, 3);
        made("5:4:f 6:0:0", 2, 4, 5, 6, 7, 0, 1, 2, 3);
    }

    /**
     * "the source s of it goes through the lower half, the place s' that is h apart from s through
     * the upper one; the place r' that wants s' comes through the upper half, and the place that is h
     * apart from r' through the lower half" With s below h and not, r' below h and not.
     */
    private static void apartFromEachOther() {
        made("6:0:0", 2, 0, 1, 2, 3);
        made("5:2:1 6:0:0", 2, 2, 1, 0, 3);
        // 0 wants 0, so 2 is upper, and place 1, which wants it; place 3 is lower, its 3 too, and 1 is upper
        made("5:2:2 5:1:4 5:2:2 6:0:0", 2, 0, 2, 1, 3);
        // 0 wants 2, so 0 is upper, and place 1, which wants it; place 3 is lower, its 1 too, and 3 is upper
        made("5:2:1 5:1:4 5:2:2 6:0:0", 2, 2, 0, 3, 1);
    }

    /** "then on with that one in r's stead, until one is decided already." */
    private static void untilOneIsDecided() {
        // 0 wants 1, so source 3 and place 1 are upper and place 3 is lower; that one wants 2, so source 0
        // and place 2 are upper, and place 0 is decided: the first swap is at 0, the last one at 1
        made("5:2:1 5:1:1 5:2:2 6:0:0", 2, 1, 3, 0, 2);
        // at once: 0 wants 0, so source 2 and place 2 are upper, and place 0 is decided; 1 likewise
        made("6:0:0", 2, 0, 1, 2, 3);
        // 0 wants 3, so source 1 and place 2 are upper, and place 0 is decided; 1 wants 0, place 3 is upper
        made("5:2:2 5:1:5 6:0:0", 2, 3, 0, 1, 2);
    }

    /**
     * "The first swap is done for the places j below h of which j goes through the upper half; the
     * last one for those of which j comes through it." Neither, one alone, both, all places.
     */
    private static void firstAndLastSwap() {
        made("6:0:0", 2, 0, 1, 2, 3);
        made("5:2:3 6:0:0", 2, 2, 3, 0, 1);
        made("5:2:2 6:0:0", 2, 0, 3, 2, 1);
        made("5:1:1 5:2:2 6:0:0", 2, 1, 3, 2, 0);
        made("5:2:1 5:1:1 5:2:2 6:0:0", 2, 1, 3, 0, 2);
        // the bits 31 and 63 of 64 change places, and then 0 and 32 too
        BitShuffler x = new BitShuffler();
        x.width(64);
        x.target(31, 63);
        x.target(63, 31);
        Due.same("bits 31 and 63", Look.made(x, 2), "5:32:80000000 6:0:0");
        x.target(0, 32);
        x.target(32, 0);
        Due.same("bits 0 and 32 too", Look.made(x, 2), "5:32:80000001 6:0:0");
    }

    /**
     * "The lower half wants at its place j the source (modulo h) of that of j and j + h that comes
     * through the lower half; the upper half likewise."
     */
    private static void halvesAreBlocks() {
        made("5:1:1 6:0:0", 2, 1, 0, 2, 3);
        made("5:2:3 5:1:5 6:0:0", 2, 3, 2, 1, 0);
        made("5:2:33 5:1:55 6:0:0", 2, 3, 2, 1, 0, 7, 6, 5, 4);
        made("5:4:f 5:2:33 5:1:55 6:0:0", 2, 7, 6, 5, 4, 3, 2, 1, 0);
        made("5:2:30 6:0:0", 2, 0, 1, 2, 3, 6, 7, 4, 5);
    }

    /**
     * "The masks: a BLOCK of n places, first the whole word, has wanted sources among its places (as
     * places in it)." By the model.
     */
    private static void blocksAsTheDocumentHasThem() {
        for (int n = 1; n <= 4; n *= 2) {
            permute(new int[n], 0, 0);
        }
        for (int n = 8; n <= 64; n *= 2) {
            for (int factor = 1; factor < 32; factor += 2) {
                int[] sources = new int[n];
                for (int k = 0; k < n; k++) {
                    // as n is a power of 2 and the factor is odd, this is a permutation
                    sources[k] = (k * (k + 1) / 2 * factor + factor / 2) % n;
                }
                sameAsModel(sources);
            }
            sameAsModel(shuffled(n));
        }
    }

    private static void permute(int[] sources, int at, int used) {
        if (at == sources.length) {
            sameAsModel(sources);
            return;
        }
        for (int s = 0; s < sources.length; s++) {
            if ((used >> s & 1) == 0) {
                sources[at] = s;
                permute(sources, at + 1, used | 1 << s);
            }
        }
    }

    private static void sameAsModel(int[] sources) {
        BitShuffler x = Look.of(sources);
        Model model = new Model();
        model.width(sources.length);
        for (int k = 0; k < sources.length; k++) {
            model.target(k, sources[k]);
        }
        String what = "swaps of " + Arrays.toString(sources);
        int size = model.make(2);
        Due.same(what, x.make(2), size);
        for (int i = 0; i < size; i++) {
            Due.same(what + ", step " + i + ": op", x.step(i, false), model.step(i, false));
            Due.same(what + ", step " + i + ": amount", x.step(i, true), model.step(i, true));
            Due.same(what + ", step " + i + ": mask", x.mask(i), model.mask(i));
        }
    }

    /** "GATHERS: the bits of the result that have a source, from the lowest one on, are put into groups" */
    private static void gathersOfBitsWithASource() {
        made("7:0:1 8:0:1 3:0:0", 3, 0);
        made("", 3, 64, 64);
        made("7:0:2 8:0:2 3:0:0", 3, 64, 1);
        made("7:0:3 8:0:a 3:0:0", 3, 64, 0, 64, 1);
        made("7:0:3 8:0:a 3:0:0 4:0:5", 3, 65, 0, 65, 1);
    }

    /** "each into the first group whose last bit has a lower source than it" */
    private static void gathersIntoTheFirstGroup() {
        made("7:0:3 8:0:3 3:0:0", 3, 0, 1);
        // bit 2 would fit both groups
        made("7:0:6 8:0:5 3:0:0 7:0:1 8:0:2 3:0:0", 3, 1, 0, 2);
        // it is the last bit of a group that counts: the 3, not the 0
        made("7:0:9 8:0:3 3:0:0 7:0:6 8:0:c 3:0:0", 3, 0, 3, 1, 2);
        // the second of three groups is the first that fits
        made("7:0:8 8:0:1 3:0:0 7:0:6 8:0:a 3:0:0 7:0:1 8:0:4 3:0:0", 3, 3, 1, 0, 2);
    }

    /** "or into a new one." An equal source is no lower one. */
    private static void gathersIntoNewGroups() {
        made("7:0:2 8:0:1 3:0:0 7:0:1 8:0:2 3:0:0", 3, 1, 0);
        made("7:0:1 8:0:1 3:0:0 7:0:1 8:0:2 3:0:0", 3, 0, 0);
        made("7:0:2 8:0:1 3:0:0 7:0:2 8:0:2 3:0:0", 3, 1, 1);
        BitShuffler x = new BitShuffler();
        x.width(64);
        for (int k = 0; k < 64; k++) {
            x.target(k, 63);
        }
        Due.same("64 bits from bit 63", x.make(3), 192);
        for (int g = 0; g < 64; g++) {
            Due.same("group " + g + ": sources", x.mask(3 * g), Long.MIN_VALUE);
            Due.same("group " + g + ": bits", x.mask(3 * g + 1), 1L << g);
        }
    }

    /** "For each group, from the first one on: GATHER with the sources, SCATTER with the bits, OR." */
    private static void groupsFromTheFirst() {
        made("7:0:4 8:0:1 3:0:0 7:0:2 8:0:2 3:0:0 7:0:1 8:0:4 3:0:0", 3, 2, 1, 0);
        made("7:0:7 8:0:7 3:0:0", 3, 0, 1, 2);
        made("", 3, 64, 64, 64);
    }

    /** "GATHER with the sources, SCATTER with the bits, OR." The bits 31, 32 and 63. */
    private static void gathersAtTheHighestBits() {
        Due.same("from 31, 32, 63", Look.made(wide(0, 31, 1, 32, 2, 63), 3), "7:0:8000000180000000 8:0:7 3:0:0");
        Due.same("to 31, 32, 63", Look.made(wide(31, 0, 32, 1, 63, 2), 3), "7:0:7 8:0:8000000180000000 3:0:0");
        Due.same("bit 63 alone", Look.made(wide(63, 63), 3), "7:0:8000000000000000 8:0:8000000000000000 3:0:0");
        Due.same("63 before 32", Look.made(wide(31, 63, 32, 32), 3),
                "7:0:8000000000000000 8:0:80000000 3:0:0 7:0:100000000 8:0:100000000 3:0:0");
        Due.same("32 before 31", Look.made(wide(0, 32, 1, 31), 3), "7:0:100000000 8:0:1 3:0:0 7:0:80000000 8:0:2 3:0:0");
    }

    /** "Then the SET." */
    private static void thenTheSet() {
        made("7:0:1 8:0:1 3:0:0 4:0:2", 3, 0, 65);
        made("7:0:2 8:0:2 3:0:0 4:0:1", 3, 65, 1);
        made("4:0:3", 3, 65, 65);
        made("7:0:3 8:0:3 3:0:0", 3, 0, 1);
    }

    /** Promise 5: "The program of a kind for the map: how many steps." */
    private static void howManySteps() {
        Due.same("no step", Look.of(64, 64).make(0), 0);
        Due.same("one step", Look.of(65, 65).make(0), 1);
        Due.same("MOVE alone", Look.of(0).make(2), 1);
        BitShuffler x = new BitShuffler();
        x.width(64);
        for (int k = 0; k < 64; k++) {
            x.target(k, 63 - k);
        }
        Due.same("the most shifts", x.make(0), 192);
        Due.same("the most gathers", x.make(3), 192);
        Due.same("64 distances, 32 of them modulo the width", x.make(1), 96);
        for (int k = 0; k < 64; k++) {
            x.target(k, 0);
        }
        Due.same("the most rotations", x.make(1), 192);
        x.target(63, 65);
        Due.same("a SET in the stead of three steps", x.make(1), 190);
        Due.same("size()", x.size(), 190);
        Due.same("the SET is the last one", x.step(189, false), 4);
        Due.same("and has bit 63", x.mask(189), Long.MIN_VALUE);
        Due.noIndex("step(190, false)", () -> x.step(190, false));
    }

    /** Promise 5: "The program of a kind for the map: how many steps." Nothing of a longer one is left. */
    private static void shorterBehindLonger() {
        BitShuffler x = Look.of(3, 2, 1, 0);
        Due.same("gathers", x.make(3), 12);
        Due.same("swaps", Look.made(x, 2), "5:2:3 5:1:5 6:0:0");
        Due.noIndex("step(3, false)", () -> x.step(3, false));
        Due.same("run(1)", x.run(1), 8);
        Due.same("ticks()", x.ticks(), 13);
        Look.targets(x, 64, 64, 64, 64);
        Due.same("nothing", x.make(0), 0);
        Due.noIndex("step(0, false)", () -> x.step(0, false));
        Due.same("run(-1)", x.run(-1), 0);
    }

    /** Promise 5: "The program of a kind for the map" Of this map: none that was made before has left anything. */
    private static void behindOthersOfItsKind() {
        int[][] maps = {{3, 2, 1, 0, 7, 6, 5, 4}, {1, 3, 0, 2, 6, 7, 4, 5}, {7, 0, 6, 1, 5, 2, 4, 3}, {0, 1, 2, 3, 4, 5, 6, 7},
                {4, 0, 5, 1, 6, 2, 7, 3}};
        for (int kind = 0; kind < 4; kind++) {
            BitShuffler x = new BitShuffler();
            for (int[] map : maps) {
                Look.targets(x, map);
                Due.same("kind " + kind + " of " + Arrays.toString(map) + " behind others", Look.made(x, kind),
                        Look.made(Look.of(map), kind));
            }
        }
    }

    /** Promise 5: "IllegalArgumentException: there is no such kind" */
    private static void noSuchKind() {
        for (int kind : new int[] {-1, 4, 5, 64, Integer.MIN_VALUE, Integer.MAX_VALUE}) {
            Held.stays("make(" + kind + ")", IllegalArgumentException.class, x -> x.make(kind));
        }
        for (int kind = 0; kind <= 3; kind++) {
            BitShuffler x = new BitShuffler();
            Due.same("make(" + kind + ")", x.make(kind), kind == 2 ? 1 : 3);
        }
    }

    /** Promise 5: "UnsupportedOperationException: the map is none for it (the program stays)." */
    private static void noMapForTheKind() {
        Held.stays("make(2) of no permutation at width 5", UnsupportedOperationException.class, x -> x.make(2));
        int[][] maps = {{64}, {65}, {0, 0}, {1, 1}, {0, 64}, {65, 0}, {0, 1, 2}, {2, 1, 0}, {0, 1, 2, 2}, {3, 1, 2, 3},
                {0, 1, 2, 3, 4}, {0, 1, 2, 3, 4, 5}, {0, 1, 2, 3, 4, 5, 6}, {0, 1, 2, 3, 4, 5, 6, 6}};
        for (int[] map : maps) {
            for (int kind : new int[] {0, 1, 3}) {
                BitShuffler x = Look.of(map);
                x.make(kind);
                String before = Held.of(x, map.length);
                Due.unsupported("make(2) behind make(" + kind + ")", () -> x.make(2));
                Due.same("all stays behind make(2) of " + Look.map(x, map.length), Held.of(x, map.length), before);
            }
        }
        BitShuffler swapped = Look.of(1, 0);
        swapped.make(2);
        swapped.target(0, 0);
        Due.unsupported("make(2) of a map that was one for it", () -> swapped.make(2));
        Due.same("the program of swaps stays", Look.steps(swapped), "5:1:1 6:0:0");
    }

    /** Promise 5: "UnsupportedOperationException: the map is none for it (the program stays)." Any map is one for 0, 1, 3. */
    private static void anyMapForTheOtherKinds() {
        for (int kind : new int[] {0, 1, 3}) {
            for (int[] map : new int[][] {{64}, {65}, {0}, {0, 0, 0}, {64, 65, 2}, {65, 64, 65, 64, 65}, {6, 6, 5, 5, 0, 0, 6}}) {
                BitShuffler x = Look.of(map);
                Due.same("make(" + kind + ") of " + Look.map(x, map.length), x.make(kind), x.size());
                Due.same("check() of kind " + kind + " of " + Look.map(x, map.length), x.check(), 0);
            }
        }
    }
}
