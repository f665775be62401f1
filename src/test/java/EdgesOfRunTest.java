/**
 * The edges of each op, run on words and traced by symbols, and of promise 10, run. The remark of
 * each test is the sentence that it is for.
 */
public final class EdgesOfRunTest {
    private static final int[] WIDTHS = {1, 2, 3, 8, 31, 32, 33, 63, 64};
    private static final long[] WORDS = {0, 1, 2, -1L, -2L, 1L << 31, 1L << 32, Long.MIN_VALUE, 0x9669c33c5aa5f00fL};

    public static void main(String[] args) {
        shiftByTheLeastAndTheGreatest();
        shiftByNothing();
        shiftAtTheHighestBits();
        rotateRoundEachWidth();
        rotateByNothing();
        rotateAtTheHighestBits();
        maskEmptyAndFull();
        maskAtTheHighestBits();
        orKeepsWhatIsThere();
        setEmptyAndFull();
        setAtTheHighestBits();
        swapOfTheLeastAndTheGreatestDistance();
        swapAtTheHighestBits();
        swapWithoutBits();
        moveAlone();
        gatherOfNothingAndOfAll();
        gatherOfFewerThanTheWidth();
        gatherBehindAnother();
        gatherAtTheHighestBits();
        scatterToNothingAndToAll();
        scatterOfMoreThanThereAre();
        scatterAtTheHighestBits();
        wordsWithBitsBeyondTheWidth();
        noSteps();
        runChangesNothing();
        Due.end();
    }

    private static long all(int width) {
        return width == 64 ? -1L : (1L << width) - 1;
    }

    /** One program of a kind for the map that is as at first: for 0, 1 and 3 three steps. */
    private static BitShuffler plain(int width, int kind) {
        BitShuffler x = new BitShuffler();
        x.width(width);
        x.make(kind);
        return x;
    }

    /** SWAP and MOVE, of a width that is a power of 2 and above 1. */
    private static BitShuffler oneSwap(int width, int d, long m) {
        BitShuffler x = new BitShuffler();
        x.width(width);
        x.target(0, 1);
        x.target(1, 0);
        x.make(2);
        Due.same("the ops of a swap and a move", x.step(0, false) * 10 + x.step(1, false), 56);
        x.patch(0, d, m);
        return x;
    }

    /** That bit k of the result is bit sources[k] of the word, or 0 if that is below 0: of words and by symbols. */
    private static void brings(String what, BitShuffler x, int[] sources) {
        for (long word : WORDS) {
            long due = 0;
            for (int k = 0; k < sources.length; k++) {
                if (sources[k] >= 0 && (word >>> sources[k] & 1) == 1) {
                    due |= 1L << k;
                }
            }
            Due.same(what + ": run(" + word + ")", x.run(word), due);
        }
        for (int k = 0; k < sources.length; k++) {
            Due.same(what + ": origins(" + k + ")", x.origins(k), sources[k] >= 0 ? 1L << sources[k] : 0);
            Due.yes(what + ": not constant(" + k + ")", !x.constant(k));
        }
    }

    private static void shifts(int width, int d) {
        BitShuffler x = plain(width, 0);
        Due.taken("patch(0, " + d + ", 0) at width " + width, () -> x.patch(0, d, 0));
        int[] sources = new int[width];
        for (int k = 0; k < width; k++) {
            sources[k] = k - d >= 0 && k - d < width ? k - d : -1;
        }
        brings("SHIFT by " + d + " at width " + width, x, sources);
    }

    /**
     * "SHIFT: T is A shifted by d, to higher places if d is above 0, to lower ones if it is below;
     * -width < d < width." The last amounts on either side: one bit is left.
     */
    private static void shiftByTheLeastAndTheGreatest() {
        for (int width : WIDTHS) {
            shifts(width, width - 1);
            shifts(width, 1 - width);
        }
    }

    /**
     * "SHIFT: T is A shifted by d, to higher places if d is above 0, to lower ones if it is below;
     * -width < d < width." Neither above nor below 0, and next to it.
     */
    private static void shiftByNothing() {
        for (int width : WIDTHS) {
            shifts(width, 0);
            if (width > 1) {
                shifts(width, 1);
                shifts(width, -1);
            }
        }
    }

    /**
     * "SHIFT: T is A shifted by d, to higher places if d is above 0, to lower ones if it is below;
     * -width < d < width." By 31, 32 and 33 places, and the bit 63 to lower places.
     */
    private static void shiftAtTheHighestBits() {
        for (int d = 31; d <= 33; d++) {
            shifts(64, d);
            shifts(64, -d);
        }
        BitShuffler x = plain(64, 0);
        x.patch(0, -1, 0);
        Due.same("no bit comes in above bit 63", x.run(Long.MIN_VALUE), 1L << 62);
        x.patch(0, -63, 0);
        Due.same("bit 63 to place 0", x.run(Long.MIN_VALUE), 1);
        x.patch(0, 63, 0);
        Due.same("bit 0 to place 63", x.run(1), Long.MIN_VALUE);
        x.patch(0, 32, 0);
        Due.same("bit 31 to place 63", x.run(1L << 31), Long.MIN_VALUE);
    }

    private static void rotates(int width, int d) {
        BitShuffler x = plain(width, 1);
        Due.taken("patch(0, " + d + ", 0) at width " + width, () -> x.patch(0, d, 0));
        int[] sources = new int[width];
        for (int k = 0; k < width; k++) {
            sources[(k + d) % width] = k;
        }
        brings("ROTATE by " + d + " at width " + width, x, sources);
    }

    /**
     * "ROTATE: T is A with each bit k moved to place (k + d) modulo width; 0 <= d < width." The
     * greatest amount, the one below it, 1, and the half: bits go round the width.
     */
    private static void rotateRoundEachWidth() {
        for (int width : WIDTHS) {
            rotates(width, width - 1);
            if (width > 1) {
                rotates(width, width - 2);
                rotates(width, 1);
                rotates(width, width / 2);
            }
        }
    }

    /** "ROTATE: T is A with each bit k moved to place (k + d) modulo width; 0 <= d < width." The least amount. */
    private static void rotateByNothing() {
        for (int width : WIDTHS) {
            rotates(width, 0);
        }
    }

    /** "ROTATE: T is A with each bit k moved to place (k + d) modulo width; 0 <= d < width." Bits 31, 32, 63. */
    private static void rotateAtTheHighestBits() {
        BitShuffler x = plain(64, 1);
        x.patch(0, 1, 0);
        Due.same("bit 63 comes round to place 0", x.run(Long.MIN_VALUE), 1);
        Due.same("bit 31 to place 32", x.run(1L << 31), 1L << 32);
        Due.same("bit 62 to place 63", x.run(1L << 62), Long.MIN_VALUE);
        x.patch(0, 63, 0);
        Due.same("bit 0 to place 63", x.run(1), Long.MIN_VALUE);
        Due.same("bit 32 comes round to place 31", x.run(1L << 32), 1L << 31);
        BitShuffler y = plain(32, 1);
        y.patch(0, 1, 0);
        Due.same("bit 31 of 32 comes round to place 0", y.run(1L << 31), 1);
        Due.same("no bit 32 there", y.run(1L << 32), 0);
        BitShuffler z = plain(33, 1);
        z.patch(0, 1, 0);
        Due.same("bit 31 of 33 to place 32", z.run(1L << 31), 1L << 32);
        Due.same("bit 32 of 33 comes round to place 0", z.run(1L << 32), 1);
    }

    /** "MASK: T is T and m." The empty mask and the full one. */
    private static void maskEmptyAndFull() {
        for (int width : WIDTHS) {
            BitShuffler x = plain(width, 0);
            Due.same("full at width " + width, x.mask(1), all(width));
            Due.same("full at width " + width + ": run(-1)", x.run(-1), all(width));
            x.patch(1, 0, 0);
            Due.same("empty at width " + width + ": run(-1)", x.run(-1), 0);
            Due.same("empty at width " + width + ": origins", x.origins(width - 1), 0);
        }
    }

    /** "MASK: T is T and m." The bits 31, 32 and 63. */
    private static void maskAtTheHighestBits() {
        for (int bit : new int[] {0, 30, 31, 32, 33, 62, 63}) {
            BitShuffler x = plain(64, 0);
            x.patch(1, 0, 1L << bit);
            Due.same("mask of bit " + bit + ": run(-1)", x.run(-1), 1L << bit);
            Due.same("mask of bit " + bit + ": run without it", x.run(~(1L << bit)), 0);
            for (int k = 0; k < 64; k++) {
                Due.same("mask of bit " + bit + ": origins(" + k + ")", x.origins(k), k == bit ? 1L << k : 0);
            }
        }
    }

    /** "OR: R is R or T." What R has stays, also where T is 0, and a bit that both have is there. */
    private static void orKeepsWhatIsThere() {
        BitShuffler x = Look.of(1, 0, 2, 3);
        x.make(0);
        Due.same("steps", Look.steps(x), "0:-1:0 2:0:1 3:0:0 0:0:0 2:0:c 3:0:0 0:1:0 2:0:2 3:0:0");
        x.patch(7, 0, 0);
        Due.same("T is 0 at last", x.run(-1), 13);
        x.patch(7, 0, 15);
        Due.same("both have a bit", x.run(15), 15);
        Due.same("one has a bit", x.run(8), 8);
        Due.same("one and the other", x.run(4), 12);
        Due.same("origins(2)", x.origins(2), 6);
    }

    /** "SET: R is R or m." The empty mask and the full one. */
    private static void setEmptyAndFull() {
        for (int width : WIDTHS) {
            BitShuffler x = new BitShuffler();
            x.width(width);
            x.target(width - 1, 65);
            int last = x.make(0) - 1;
            long others = all(width) & ~(1L << (width - 1));
            x.patch(last, 0, 0);
            Due.same("empty at width " + width + ": run(0)", x.run(0), 0);
            Due.same("empty at width " + width + ": run(-1)", x.run(-1), others);
            Due.yes("empty at width " + width + ": constant", !x.constant(width - 1));
            x.patch(last, 0, all(width));
            Due.same("full at width " + width + ": run(0)", x.run(0), all(width));
            Due.same("full at width " + width + ": run(-1)", x.run(-1), all(width));
            Due.yes("full at width " + width + ": constant", x.constant(width - 1) && x.constant(0));
        }
    }

    /** "SET: R is R or m." The bits 31, 32 and 63. */
    private static void setAtTheHighestBits() {
        for (int bit : new int[] {0, 30, 31, 32, 33, 62, 63}) {
            BitShuffler x = new BitShuffler();
            x.width(64);
            for (int k = 0; k < 64; k++) {
                x.target(k, 64);
            }
            x.target(bit, 65);
            Due.same("SET alone", x.make(0), 1);
            Due.same("SET of bit " + bit + ": mask", x.mask(0), 1L << bit);
            Due.same("SET of bit " + bit + ": run(0)", x.run(0), 1L << bit);
            Due.same("SET of bit " + bit + ": run(-1)", x.run(-1), 1L << bit);
            for (int k = 0; k < 64; k++) {
                Due.yes("SET of bit " + bit + ": constant(" + k + ")", x.constant(k) == (k == bit));
            }
        }
    }

    private static void swaps(int width, int d, long m) {
        int[] sources = new int[width];
        for (int k = 0; k < width; k++) {
            sources[k] = k;
        }
        for (int k = 0; k < width; k++) {
            if ((m >>> k & 1) == 1) {
                sources[k] = k + d;
                sources[k + d] = k;
            }
        }
        brings("SWAP by " + d + " with " + Long.toHexString(m) + " at width " + width,
                oneSwap(width, d, m), sources);
    }

    /**
     * "SWAP: in A the bits k and k + d change places for each bit k of m; 0 < d < width, k + d is
     * below width and is no bit of m." The least distance and the greatest one, the first place and
     * the last one.
     */
    private static void swapOfTheLeastAndTheGreatestDistance() {
        for (int width = 2; width <= 64; width *= 2) {
            swaps(width, 1, 1);
            swaps(width, 1, 1L << (width - 2));
            swaps(width, width - 1, 1);
            swaps(width, width / 2, all(width / 2));
            swaps(width, 1, 0x5555555555555555L & all(width));
        }
    }

    /**
     * "SWAP: in A the bits k and k + d change places for each bit k of m; 0 < d < width, k + d is
     * below width and is no bit of m." The bits 31, 32 and 63.
     */
    private static void swapAtTheHighestBits() {
        swaps(64, 1, 1L << 31);
        swaps(64, 1, 1L << 30);
        swaps(64, 1, 1L << 32);
        swaps(64, 31, 1L << 32);
        swaps(64, 32, 1L << 31);
        swaps(64, 32, 1L << 31 | 1);
        swaps(64, 1, 1L << 62);
        swaps(32, 31, 1);
        swaps(32, 1, 1L << 30);
    }

    /**
     * "SWAP: in A the bits k and k + d change places for each bit k of m; 0 < d < width, k + d is
     * below width and is no bit of m." The empty mask: nothing changes its place.
     */
    private static void swapWithoutBits() {
        for (int width = 2; width <= 64; width *= 2) {
            swaps(width, 1, 0);
            swaps(width, width - 1, 0);
        }
    }

    /** "MOVE: R is R or A." */
    private static void moveAlone() {
        for (int width = 1; width <= 64; width *= 2) {
            BitShuffler x = plain(width, 2);
            Due.same("MOVE alone at width " + width, Look.steps(x), "6:0:0");
            int[] sources = new int[width];
            for (int k = 0; k < width; k++) {
                sources[k] = k;
            }
            brings("MOVE alone at width " + width, x, sources);
        }
    }

    private static void gathers(int width, long gather, long scatter) {
        BitShuffler x = plain(width, 3);
        Due.same("ops", x.step(0, false) * 10 + x.step(1, false), 78);
        x.patch(0, 0, gather);
        x.patch(1, 0, scatter);
        int[] lows = new int[width];
        int count = 0;
        for (int k = 0; k < width; k++) {
            lows[k] = -1;
        }
        for (int k = 0; k < width; k++) {
            if ((gather >>> k & 1) == 1) {
                lows[count++] = k;
            }
        }
        int[] sources = new int[width];
        int next = 0;
        for (int k = 0; k < width; k++) {
            sources[k] = (scatter >>> k & 1) == 1 ? lows[next++] : -1;
        }
        brings("GATHER " + Long.toHexString(gather) + " and SCATTER " + Long.toHexString(scatter)
                + " at width " + width, x, sources);
    }

    /** "GATHER: bit k of T is the bit of A at the k-th lowest bit of m (from 0)" */
    private static void gatherOfNothingAndOfAll() {
        for (int width : WIDTHS) {
            gathers(width, 0, all(width));
            gathers(width, all(width), all(width));
            gathers(width, 1, all(width));
            gathers(width, 1L << (width - 1), all(width));
        }
        BitShuffler x = plain(8, 3);
        x.patch(0, 0, 0);
        Due.same("empty: run(-1)", x.run(-1), 0);
        x.patch(0, 0, 128);
        Due.same("the highest bit: run(-1)", x.run(-1), 1);
        Due.same("the highest bit: run(127)", x.run(127), 0);
    }

    /** "or 0 if m has not so many." */
    private static void gatherOfFewerThanTheWidth() {
        for (int width : WIDTHS) {
            long allButTheHighest = all(width) >>> 1;
            long allButTheLowest = all(width) & ~1L;
            gathers(width, allButTheHighest, all(width));
            gathers(width, allButTheLowest, all(width));
        }
        BitShuffler x = plain(8, 3);
        x.patch(0, 0, 0xfe);
        Due.same("seven of eight: run(-1)", x.run(-1), 0x7f);
        Due.same("seven of eight: origins(6)", x.origins(6), 128);
        Due.same("seven of eight: origins(7)", x.origins(7), 0);
    }

    /** "or 0 if m has not so many." Also where an earlier GATHER or SCATTER has left a bit in T. */
    private static void gatherBehindAnother() {
        BitShuffler x = Look.of(2, 1, 64);
        x.make(3);
        Due.same("steps", Look.steps(x), "7:0:4 8:0:1 3:0:0 7:0:2 8:0:2 3:0:0");
        x.patch(0, 0, 7);
        x.patch(1, 0, 7);
        x.patch(4, 0, 7);
        Due.same("run(2)", x.run(2), 3);
        Due.same("origins(0)", x.origins(0), 3);
        Due.same("origins(1)", x.origins(1), 2);
        Due.same("origins(2)", x.origins(2), 4);
        x.patch(1, 0, 0);
        Due.same("the second one alone: run(-1)", x.run(-1), 1);
        Due.same("the second one alone: origins(0)", x.origins(0), 2);
        x.patch(1, 0, 6);
        x.patch(3, 0, 0);
        Due.same("the first one alone: run(-1)", x.run(-1), 6);
        Due.same("the first one alone: origins(0)", x.origins(0), 0);
        Due.same("the first one alone: origins(2)", x.origins(2), 2);
        BitShuffler y = Look.of(2, 1, 64);
        y.make(3);
        y.patch(0, 0, 7);
        y.patch(1, 0, 2);
        y.patch(4, 0, 6);
        // T's bit 1 is bit 0 of the word; the second GATHER makes it 0, so that nothing goes to place 2
        Due.same("both are at place 1", y.origins(1), 3);
        Due.same("what stood in T is in no set", y.origins(2), 0);
        Due.same("nor in a word", y.run(-1), 2);
    }

    /** "GATHER: bit k of T is the bit of A at the k-th lowest bit of m (from 0)" The bits 31, 32 and 63. */
    private static void gatherAtTheHighestBits() {
        gathers(64, 1L << 31 | 1L << 32 | 1L << 63, -1L);
        gathers(64, 0xffffffff00000000L, -1L);
        gathers(64, 0x00000000ffffffffL, -1L);
        gathers(33, 1L << 31 | 1L << 32, all(33));
        BitShuffler x = plain(64, 3);
        x.patch(0, 0, 1L << 31 | 1L << 32 | 1L << 63);
        Due.same("bit 31 is the lowest", x.run(1L << 31), 1);
        Due.same("then bit 32", x.run(1L << 32), 2);
        Due.same("then bit 63", x.run(Long.MIN_VALUE), 4);
    }

    /** "SCATTER: for the k-th lowest bit of m, T's bit there becomes bit k of T as it was; its other bits become 0." */
    private static void scatterToNothingAndToAll() {
        for (int width : WIDTHS) {
            gathers(width, all(width), 0);
            gathers(width, all(width), 1);
            gathers(width, all(width), 1L << (width - 1));
        }
        BitShuffler x = plain(8, 3);
        x.patch(1, 0, 0);
        Due.same("empty: run(-1)", x.run(-1), 0);
        x.patch(1, 0, 128);
        Due.same("the highest bit: run(1)", x.run(1), 128);
        Due.same("its other bits become 0", x.run(-1), 128);
    }

    /**
     * "SCATTER: for the k-th lowest bit of m, T's bit there becomes bit k of T as it was; its other
     * bits become 0." A place is written from one that has been written already, or has nothing.
     */
    private static void scatterOfMoreThanThereAre() {
        for (int width : WIDTHS) {
            gathers(width, 1, all(width) & ~1L);
            gathers(width, all(width) >>> 1, all(width) & ~1L);
            gathers(width, all(width), all(width) & ~1L);
            gathers(width, all(width), 0xaaaaaaaaaaaaaaaaL & all(width));
            gathers(width, 0x5555555555555555L & all(width), 0xaaaaaaaaaaaaaaaaL & all(width));
        }
    }

    /**
     * "SCATTER: for the k-th lowest bit of m, T's bit there becomes bit k of T as it was; its other
     * bits become 0." The bits 31, 32 and 63.
     */
    private static void scatterAtTheHighestBits() {
        gathers(64, -1L, 1L << 31 | 1L << 32 | 1L << 63);
        gathers(64, 1L << 31 | 1L << 32 | 1L << 63, 1L << 31 | 1L << 32 | 1L << 63);
        gathers(64, 0xffffffff00000000L, 0x00000000ffffffffL);
        gathers(64, 0x00000000ffffffffL, 0xffffffff00000000L);
        BitShuffler x = plain(64, 3);
        x.patch(1, 0, 1L << 31 | 1L << 32 | 1L << 63);
        Due.same("bit 0", x.run(1), 1L << 31);
        Due.same("bit 1", x.run(2), 1L << 32);
        Due.same("bit 2", x.run(4), Long.MIN_VALUE);
        Due.same("bit 3", x.run(8), 0);
    }

    /** Promise 10: "The result of the program for a word (its bits beyond the width do not matter)" */
    private static void wordsWithBitsBeyondTheWidth() {
        for (int width : WIDTHS) {
            for (int kind : new int[] {0, 1, 3}) {
                BitShuffler x = plain(width, kind);
                for (long word : WORDS) {
                    String what = "kind " + kind + " at width " + width + ": run(" + word + ")";
                    Due.same(what, x.run(word), word & all(width));
                    Due.same(what + " with all bits beyond", x.run(word | ~all(width)), word & all(width));
                    Due.same(what + " with none beyond", x.run(word & all(width)), word & all(width));
                }
            }
        }
        BitShuffler x = oneSwap(8, 7, 1);
        Due.same("swaps: the bits 7 and 8", x.run(0x180), 1);
        Due.same("swaps: bit 8", x.run(0x100), 0);
        Due.same("swaps: bit 63", x.run(Long.MIN_VALUE), 0);
        x.make(2);
        Due.same("swaps: all bits", x.run(-1), 255);
    }

    /** Promise 10: "0 without steps." */
    private static void noSteps() {
        BitShuffler x = new BitShuffler();
        Due.same("new: run(-1)", x.run(-1), 0);
        Due.same("new: run(0)", x.run(0), 0);
        x.target(0, 65);
        Due.same("without steps ONE is not there", x.run(-1), 0);
        x.make(0);
        Due.same("made: run(0)", x.run(0), 1);
        x.width(8);
        Due.same("behind width: run(-1)", x.run(-1), 0);
        for (int kind : new int[] {0, 1, 3}) {
            BitShuffler zeros = Look.of(64, 64, 64);
            Due.same("ZEROs alone: make(" + kind + ")", zeros.make(kind), 0);
            Due.same("ZEROs alone: run(-1)", zeros.run(-1), 0);
        }
    }

    /** Promise 10: "The result of the program for a word" No word changes what the object holds. */
    private static void runChangesNothing() {
        BitShuffler x = Held.scene();
        for (long word : WORDS) {
            x.run(word);
        }
        Due.same("behind run", Held.of(x, Held.WIDTH), Held.of(Held.scene(), Held.WIDTH));
    }
}
