/**
 * The edges that the document names for "by symbols", and those of the promises 12 to 14: check,
 * origins, constant. The remark of each test is the sentence that it is for.
 */
public final class EdgesOfSymbolsTest {
    private static final int[] WIDTHS = {1, 2, 3, 8, 31, 32, 33, 63, 64};

    public static void main(String[] args) {
        emptySetsAtFirst();
        setsOfOneBit();
        setsOfAllBits();
        setsOfBothHalves();
        othersBecomeEmpty();
        rightForASource();
        rightForZero();
        rightForOne();
        orWithOneOnlyForOne();
        checkOfAllRight();
        checkOfTheLowest();
        checkOfTheLastBit();
        checkOfTheMapAsItIs();
        originsOfTheFirstAndTheLastBit();
        originsWithoutBit();
        constantOfTheFirstAndTheLastBit();
        constantLeavesTheSet();
        constantIsNoAnswerOfWords();
        constantWithoutBit();
        askingChangesNothing();
        Due.end();
    }

    private static long all(int width) {
        return width == 64 ? -1L : (1L << width) - 1;
    }

    private static BitShuffler plain(int width, int kind) {
        BitShuffler x = new BitShuffler();
        x.width(width);
        x.make(kind);
        return x;
    }

    /** All bits from bit 0: for each distance a ROTATE, a MASK with one bit and an OR. */
    private static BitShuffler allRotations(int width) {
        BitShuffler x = new BitShuffler();
        x.width(width);
        for (int k = 0; k < width; k++) {
            x.target(k, 0);
        }
        Due.same("a rotation for each distance", x.make(1), 3 * width);
        return x;
    }

    /**
     * "each bit of A, T and R has a set of bits of the given word of which it is the or, and is or
     * with 1 perhaps" Without steps R is 0: the sets are empty.
     */
    private static void emptySetsAtFirst() {
        for (int n : WIDTHS) {
            BitShuffler x = new BitShuffler();
            x.width(n);
            for (int k = 0; k < n; k++) {
                Due.same("origins(" + k + ") at width " + n, x.origins(k), 0);
                Due.yes("not constant(" + k + ") at width " + n, !x.constant(k));
            }
        }
    }

    /** "each bit of A, T and R has a set of bits of the given word of which it is the or" A at first: each itself. */
    private static void setsOfOneBit() {
        for (int n : WIDTHS) {
            for (int kind : new int[] {0, 1, 3}) {
                BitShuffler x = plain(n, kind);
                for (int k = 0; k < n; k++) {
                    Due.same("kind " + kind + " at width " + n + ": origins(" + k + ")", x.origins(k), 1L << k);
                }
            }
        }
    }

    /** "each bit of A, T and R has a set of bits of the given word of which it is the or" The full set. */
    private static void setsOfAllBits() {
        for (int n : WIDTHS) {
            BitShuffler x = allRotations(n);
            for (int i = 1; i < 3 * n; i += 3) {
                x.patch(i, 0, all(n));
            }
            Due.same("origins(0) at width " + n, x.origins(0), all(n));
            Due.same("origins(" + (n - 1) + ") at width " + n, x.origins(n - 1), all(n));
            Due.yes("not constant(0) at width " + n, !x.constant(0));
            Due.same("run(0)", x.run(0), 0);
            Due.same("run of the highest bit alone", x.run(1L << (n - 1)), all(n));
        }
    }

    /** "of which it is the or" The bits 31, 32 and 63 in one set, and a bit that comes twice. */
    private static void setsOfBothHalves() {
        BitShuffler x = new BitShuffler();
        x.width(64);
        for (int k = 0; k < 64; k++) {
            x.target(k, 64);
        }
        x.target(0, 63);
        x.target(1, 33);
        x.target(2, 33);
        Due.same("shifts by -63, -32, -31", x.make(0), 9);
        for (int i = 1; i < 9; i += 3) {
            x.patch(i, 0, 3);
        }
        Due.same("origins(0)", x.origins(0), 1L << 63 | 1L << 32 | 1L << 31);
        Due.same("origins(1)", x.origins(1), 1L << 33 | 1L << 32);
        Due.same("origins(2)", x.origins(2), 0);
        Due.same("run(bit 31)", x.run(1L << 31), 1);
        Due.same("run(bit 32)", x.run(1L << 32), 3);
        Due.same("run(bit 63)", x.run(1L << 63), 1);
        x.patch(3, -63, 0);
        Due.same("bit 63 twice", x.origins(0), 1L << 63 | 1L << 31);
    }

    /** "(a MASK or SCATTER makes the others empty)" */
    private static void othersBecomeEmpty() {
        for (int n : WIDTHS) {
            for (int kind : new int[] {0, 1, 3}) {
                BitShuffler x = plain(n, kind);
                x.patch(1, 0, 0);
                for (int k = 0; k < n; k++) {
                    Due.same("empty mask, kind " + kind + ", width " + n, x.origins(k), 0);
                }
                x.patch(1, 0, 1L << (n - 1));
                for (int k = 0; k < n; k++) {
                    long due = k < n - 1 ? 0 : kind == 3 ? 1 : 1L << k;
                    Due.same("highest bit, kind " + kind + ", width " + n, x.origins(k), due);
                }
            }
        }
    }

    /** "A result bit is RIGHT if its set is just its source" One more, one less, another one are not right. */
    private static void rightForASource() {
        BitShuffler x = Look.of(1, 64, 64);
        x.make(0);
        Due.same("steps", Look.steps(x), "0:-1:0 2:0:1 3:0:0");
        Due.same("just its source", x.check(), 0);
        x.patch(0, -2, 0);
        Due.same("another one", x.check(), 1);
        x.patch(0, -1, 0);
        x.patch(1, 0, 0);
        Due.same("none", x.check(), 1);
        BitShuffler two = Look.of(1, 1, 64);
        two.make(0);
        Due.same("steps", Look.steps(two), "0:-1:0 2:0:1 3:0:0 0:0:0 2:0:2 3:0:0");
        Due.same("just their source", two.check(), 0);
        two.patch(4, 0, 3);
        Due.same("one more", two.check(), 1);
        two.patch(1, 0, 0);
        Due.same("one more and not its source", two.check(), 1);
    }

    /** "(empty for ZERO" */
    private static void rightForZero() {
        BitShuffler x = Look.of(64, 1);
        x.make(0);
        Due.same("empty", x.check(), 0);
        x.patch(1, 0, 3);
        Due.same("with bit 0", x.check(), 1);
        x.target(0, 0);
        Due.same("with bit 0, which is its source now", x.check(), 0);
        BitShuffler zeros = Look.of(64, 64);
        Due.same("without steps", zeros.check(), 0);
    }

    /** "and for ONE, if it is or with 1, any)" */
    private static void rightForOne() {
        BitShuffler x = Look.of(65, 1);
        x.make(0);
        Due.same("steps", Look.steps(x), "0:0:0 2:0:2 3:0:0 4:0:1");
        Due.same("or with 1, and the empty set", x.check(), 0);
        x.patch(1, 0, 3);
        Due.same("origins(0)", x.origins(0), 1);
        Due.same("or with 1, and a set", x.check(), 0);
        x.patch(3, 0, 0);
        Due.same("a set, but not or with 1", x.check(), 1);
        x.patch(1, 0, 2);
        Due.same("neither", x.check(), 1);
        BitShuffler full = allRotations(64);
        for (int i = 1; i < 192; i += 3) {
            full.patch(i, 0, -1L);
        }
        full.target(0, 65);
        Due.same("the full set, but not or with 1", full.check(), 1);
    }

    /** "and it is or with 1 just when it is to be ONE." */
    private static void orWithOneOnlyForOne() {
        BitShuffler x = Look.of(0, 64, 65);
        x.make(1);
        Due.same("steps", Look.steps(x), "1:0:0 2:0:1 3:0:0 4:0:4");
        Due.same("right", x.check(), 0);
        x.patch(3, 0, 5);
        Due.same("just its source, but or with 1", x.check(), 1);
        x.patch(3, 0, 6);
        Due.same("ZERO, but or with 1", x.check(), 2);
        x.patch(3, 0, 0);
        Due.same("ONE, but not or with 1", x.check(), 3);
        x.patch(3, 0, 7);
        Due.same("all or with 1", x.check(), 1);
    }

    /** Promise 12: "0 if all bits of the result are right by symbols" The least and the greatest width, each kind. */
    private static void checkOfAllRight() {
        for (int n : WIDTHS) {
            for (int kind = 0; kind < 4; kind++) {
                if (kind != 2 || Integer.bitCount(n) == 1) {
                    BitShuffler x = new BitShuffler();
                    x.width(n);
                    for (int k = 0; k < n; k++) {
                        x.target(k, n - 1 - k);
                    }
                    x.make(kind);
                    Due.same("kind " + kind + " at width " + n, x.check(), 0);
                }
            }
        }
        BitShuffler ones = Look.of(65, 65, 65);
        ones.make(3);
        Due.same("ONEs alone", ones.check(), 0);
        BitShuffler zeros = Look.of(64, 64, 64);
        zeros.make(3);
        Due.same("ZEROs alone, an empty program", zeros.check(), 0);
    }

    /** Promise 12: "else one more than the lowest that is not." */
    private static void checkOfTheLowest() {
        for (int n : WIDTHS) {
            BitShuffler x = plain(n, 0);
            for (int k = 0; k < n; k++) {
                x.patch(1, 0, all(n) & ~(1L << k));
                Due.same("width " + n + ", without bit " + k, x.check(), k + 1);
                x.patch(1, 0, (1L << k) - 1);
                Due.same("width " + n + ", without the bits from " + k + " on", x.check(), k + 1);
            }
        }
    }

    /** Promise 12: "else one more than the lowest that is not." The last bit: the answer is the width. */
    private static void checkOfTheLastBit() {
        for (int n : WIDTHS) {
            BitShuffler x = plain(n, 3);
            x.target(n - 1, 65);
            Due.same("ONE at width " + n, x.check(), n);
            x.target(n - 1, 64);
            Due.same("ZERO at width " + n, x.check(), n);
            x.target(n - 1, n - 1);
            Due.same("itself at width " + n, x.check(), 0);
        }
    }

    /** Promise 12: "0 if all bits of the result are right by symbols" As the map wants it now, and of the program as it is. */
    private static void checkOfTheMapAsItIs() {
        BitShuffler x = Look.of(1, 2, 0);
        Due.same("without steps", x.check(), 1);
        x.make(0);
        x.keep();
        Due.same("made", x.check(), 0);
        x.invert();
        Due.same("behind invert", x.check(), 1);
        x.invert();
        Due.same("behind invert twice", x.check(), 0);
        x.join(0);
        Due.same("behind join", x.check(), 1);
        x.make(1);
        Due.same("made again", x.check(), 0);
        x.width(3);
        Due.same("behind width", x.check(), 1);
    }

    /** Promise 13: "The set of a bit of the result by symbols." */
    private static void originsOfTheFirstAndTheLastBit() {
        for (int n : WIDTHS) {
            BitShuffler x = new BitShuffler();
            x.width(n);
            for (int k = 0; k < n; k++) {
                x.target(k, n - 1 - k);
            }
            x.make(3);
            Due.same("origins(0) at width " + n, x.origins(0), 1L << (n - 1));
            Due.same("origins(" + (n - 1) + ") at width " + n, x.origins(n - 1), 1);
            x.target(0, 64);
            Due.same("of the program, not of the map", x.origins(0), 1L << (n - 1));
        }
    }

    /** Promise 13: "IllegalArgumentException: there is no such bit." */
    private static void originsWithoutBit() {
        for (int bit : new int[] {-1, Held.WIDTH, Held.WIDTH + 1, 63, 64, 65, Integer.MIN_VALUE, Integer.MAX_VALUE}) {
            Held.stays("origins(" + bit + ")", IllegalArgumentException.class, x -> x.origins(bit));
        }
        for (int n : WIDTHS) {
            BitShuffler x = new BitShuffler();
            x.width(n);
            Due.refused("origins(-1) at width " + n, () -> x.origins(-1));
            Due.refused("origins(" + n + ") at width " + n, () -> x.origins(n));
        }
    }

    /** Promise 14: "Whether a bit of the result is or with 1 by symbols." */
    private static void constantOfTheFirstAndTheLastBit() {
        for (int n : WIDTHS) {
            BitShuffler x = new BitShuffler();
            x.width(n);
            x.target(n - 1, 65);
            x.make(0);
            Due.yes("constant(" + (n - 1) + ") at width " + n, x.constant(n - 1));
            Due.yes("constant(0) at width " + n, x.constant(0) == (n == 1));
            int last = x.size() - 1;
            x.patch(last, 0, 1);
            Due.yes("constant(0) behind patch at width " + n, x.constant(0));
            Due.yes("constant(" + (n - 1) + ") behind patch at width " + n, x.constant(n - 1) == (n == 1));
            x.patch(last, 0, 0);
            Due.yes("neither at width " + n, !x.constant(0) && !x.constant(n - 1));
        }
    }

    /** Promise 14: "Whether a bit of the result is or with 1 by symbols." Its set is what it is without that. */
    private static void constantLeavesTheSet() {
        BitShuffler x = Look.of(0, 65);
        x.make(0);
        x.patch(1, 0, 3);
        Due.yes("constant(1)", x.constant(1));
        Due.same("origins(1)", x.origins(1), 2);
        x.patch(3, 0, 3);
        Due.yes("constant(0)", x.constant(0));
        Due.same("origins(0)", x.origins(0), 1);
        Due.same("run(0)", x.run(0), 3);
    }

    /**
     * Promise 14: "Whether a bit of the result is or with 1 by symbols." Not of the map, nor of what
     * is the same for all words.
     */
    private static void constantIsNoAnswerOfWords() {
        BitShuffler x = Look.of(64, 65);
        Due.yes("ONE in the map alone", !x.constant(1));
        x.make(0);
        Due.yes("always 0", !x.constant(0));
        x.target(1, 64);
        Due.yes("ONE in the program alone", x.constant(1));
        x.width(2);
        Due.yes("behind width", !x.constant(1));
    }

    /** Promise 14: "IllegalArgumentException: there is no such bit." */
    private static void constantWithoutBit() {
        for (int bit : new int[] {-1, Held.WIDTH, Held.WIDTH + 1, 63, 64, 65, Integer.MIN_VALUE, Integer.MAX_VALUE}) {
            Held.stays("constant(" + bit + ")", IllegalArgumentException.class, x -> x.constant(bit));
        }
        for (int n : WIDTHS) {
            BitShuffler x = new BitShuffler();
            x.width(n);
            Due.refused("constant(-1) at width " + n, () -> x.constant(-1));
            Due.refused("constant(" + n + ") at width " + n, () -> x.constant(n));
        }
    }

    /** "these go through a program as bits do" Each time from the start: asking twice answers the same. */
    private static void askingChangesNothing() {
        BitShuffler x = Held.scene();
        String before = Held.of(x, Held.WIDTH);
        x.check();
        x.origins(0);
        x.constant(1);
        Due.same("behind check, origins and constant", Held.of(x, Held.WIDTH), before);
        // nothing of a wider program is left in the sets of a narrower one
        BitShuffler y = allRotations(64);
        y.make(3);
        y.check();
        y.width(3);
        Due.same("without steps", y.origins(2), 0);
        y.make(3);
        y.patch(0, 0, 1);
        Due.same("gathered: bit 0", y.origins(0), 1);
        Due.same("gathered: nothing", y.origins(1), 0);
        Due.same("gathered: nothing at the last bit", y.origins(2), 0);
    }
}
