/**
 * The edges that the document's introduction and its section "Terms" name for words, the map and
 * programs. The remark of each test is the sentence that it is for.
 */
public final class EdgesOfTermsTest {
    private static final int[] WIDTHS = {1, 2, 3, 8, 31, 32, 33, 63, 64};

    public static void main(String[] args) {
        lastCallOfAll();
        constants();
        widthAtFirst();
        leastWidth();
        greatestWidth();
        bitsFromTheLowest();
        sourcesOfEachWidth();
        sourcesBehindWidth();
        permutationsOfFewBits();
        permutationsOfManyBits();
        wordsAtFirst();
        bitsBeyondTheWidth();
        fieldsThatAreNotNamed();
        Due.end();
    }

    private static long all(int width) {
        return width == 64 ? -1L : (1L << width) - 1;
    }

    /** "An object is used for at most 512 calls after it has been made; what later calls answer is free." */
    private static void lastCallOfAll() {
        BitShuffler x = new BitShuffler();
        x.width(64);
        for (int k = 0; k < 64; k++) {
            x.target(k, 63 - k);
        }
        for (int k = 0; k < 8; k++) {
            x.keep();
        }
        for (int calls = 73; calls < 510; calls++) {
            if (calls % 2 == 1) {
                x.make(calls / 2 % 4);
            } else {
                Due.same("call " + (calls + 1) + ", check()", x.check(), 0);
            }
        }
        Due.same("call 511, make(0)", x.make(0), 192);
        Due.same("call 512, run(1)", x.run(1), Long.MIN_VALUE);
    }

    /** "or 64, ZERO, or 65, ONE." */
    private static void constants() {
        Due.same("ZERO", BitShuffler.ZERO, 64);
        Due.same("ONE", BitShuffler.ONE, 65);
        for (int n : WIDTHS) {
            BitShuffler x = new BitShuffler();
            x.width(n);
            x.target(n - 1, 64);
            Due.same("source 64 at width " + n, x.direct(-1), all(n) & ~(1L << (n - 1)));
            x.target(n - 1, 65);
            Due.same("source 65 at width " + n, x.direct(0), 1L << (n - 1));
        }
    }

    /** "A WORD has WIDTH bits, 1 .. 64 (at first 8), numbered from 0, the lowest." At first 8. */
    private static void widthAtFirst() {
        BitShuffler x = new BitShuffler();
        Due.same("source(7)", x.source(7), 7);
        Due.refused("source(8)", () -> x.source(8));
        Due.same("direct(-1)", x.direct(-1), 255);
    }

    /** "A WORD has WIDTH bits, 1 .. 64 (at first 8), numbered from 0, the lowest." The least one. */
    private static void leastWidth() {
        BitShuffler x = new BitShuffler();
        Due.taken("width(1)", () -> x.width(1));
        Due.same("source(0)", x.source(0), 0);
        Due.refused("source(1)", () -> x.source(1));
        Due.same("direct(-1)", x.direct(-1), 1);
        Due.same("direct(-2)", x.direct(-2), 0);
        for (int kind = 0; kind < 4; kind++) {
            x.make(kind);
            Due.same("kind " + kind + ": run(-1)", x.run(-1), 1);
            Due.same("kind " + kind + ": run(-2)", x.run(-2), 0);
            Due.same("kind " + kind + ": check()", x.check(), 0);
        }
    }

    /** "A WORD has WIDTH bits, 1 .. 64 (at first 8), numbered from 0, the lowest." The greatest one. */
    private static void greatestWidth() {
        BitShuffler x = new BitShuffler();
        Due.taken("width(64)", () -> x.width(64));
        Due.same("source(63)", x.source(63), 63);
        Due.refused("source(64)", () -> x.source(64));
        Due.same("direct(-1)", x.direct(-1), -1);
        for (int kind = 0; kind < 4; kind++) {
            x.make(kind);
            Due.same("kind " + kind + ": run(-1)", x.run(-1), -1);
            Due.same("kind " + kind + ": run(the least long)", x.run(Long.MIN_VALUE), Long.MIN_VALUE);
            Due.same("kind " + kind + ": check()", x.check(), 0);
        }
    }

    /** "A WORD has WIDTH bits, 1 .. 64 (at first 8), numbered from 0, the lowest." Bits 0, 31, 32 and 63. */
    private static void bitsFromTheLowest() {
        BitShuffler x = new BitShuffler();
        x.width(64);
        x.target(0, 63);
        x.target(63, 0);
        x.target(31, 32);
        x.target(32, 31);
        for (int kind = 0; kind < 4; kind++) {
            x.make(kind);
            bitComes(x, 0, 63);
            bitComes(x, 63, 0);
            bitComes(x, 31, 32);
            bitComes(x, 32, 31);
            bitComes(x, 30, 30);
            bitComes(x, 33, 33);
        }
    }

    private static void bitComes(BitShuffler x, int bit, int source) {
        Due.same("direct of bit " + source, x.direct(1L << source), 1L << bit);
        Due.same("run of bit " + source, x.run(1L << source), 1L << bit);
        Due.same("direct without bit " + source, x.direct(~(1L << source)), ~(1L << bit));
        Due.same("run without bit " + source, x.run(~(1L << source)), ~(1L << bit));
        Due.same("origins(" + bit + ")", x.origins(bit), 1L << source);
    }

    /** "its SOURCE, 0 .. width - 1, or 64, ZERO, or 65, ONE." For each width each source from -2 to 68. */
    private static void sourcesOfEachWidth() {
        for (int n = 1; n <= 64; n++) {
            BitShuffler x = new BitShuffler();
            x.width(n);
            int due = 0;
            for (int s = -2; s <= 68; s++) {
                int source = s;
                boolean isOne = s >= 0 && s <= n - 1 || s == 64 || s == 65;
                String what = "target(0, " + s + ") at width " + n;
                Due.same(what, Due.answer(() -> x.target(0, source)),
                        isOne ? "0" : "throws.IllegalArgumentException");
                due = isOne ? s : due;
                Due.same("source(0) behind " + what, x.source(0), due);
            }
        }
    }

    /** "(At first, and when the width is set, bit k comes from bit k.)" */
    private static void sourcesBehindWidth() {
        BitShuffler first = new BitShuffler();
        Due.same("at first", Look.map(first, 8), "0 1 2 3 4 5 6 7");
        for (int n = 1; n <= 64; n++) {
            BitShuffler x = new BitShuffler();
            x.width(64);
            for (int k = 0; k < 64; k++) {
                x.target(k, k % 2 == 0 ? 64 + k / 2 % 2 : 63 - k);
            }
            x.width(n);
            comesFromItself(x, n);
            // the bits above a smaller width come from themselves again too
            x.width(64);
            comesFromItself(x, 64);
        }
    }

    private static void comesFromItself(BitShuffler x, int n) {
        for (int k = 0; k < n; k++) {
            Due.same("source(" + k + ") at width " + n, x.source(k), k);
        }
    }

    /** "It is a PERMUTATION if all sources are different and none is ZERO or ONE." Widths up to 4. */
    private static void permutationsOfFewBits() {
        permutation(true, 0);
        permutation(false, 64);
        permutation(false, 65);
        permutation(true, 1, 0);
        permutation(false, 0, 0);
        permutation(false, 1, 1);
        permutation(false, 64, 1);
        permutation(false, 0, 65);
        permutation(false, 64, 65);
        permutation(true, 0, 1, 2, 3);
        permutation(true, 3, 2, 1, 0);
        permutation(false, 1, 1, 2, 3);
        permutation(false, 0, 1, 3, 3);
        permutation(false, 3, 1, 2, 3);
        permutation(false, 64, 1, 2, 3);
        permutation(false, 65, 1, 2, 3);
        permutation(false, 0, 1, 2, 64);
        permutation(false, 0, 1, 2, 65);
        permutation(false, 64, 65, 0, 1);
    }

    private static void permutation(boolean due, int... sources) {
        BitShuffler x = Look.of(sources);
        String map = Look.map(x, sources.length);
        String answer = due ? "0" : "throws.UnsupportedOperationException";
        Due.same("invert() of " + map, Due.answer(() -> x.invert()), answer);
        Look.targets(x, sources);
        Due.yes("make(2) of " + map, due != Due.answer(() -> x.make(2)).startsWith("throws"));
        Due.yes("least() of " + map, due != Due.answer(() -> x.least()).startsWith("throws"));
    }

    /** "It is a PERMUTATION if all sources are different and none is ZERO or ONE." The bits 0, 31, 32 and 63. */
    private static void permutationsOfManyBits() {
        wide(true, 0, 0);
        // as a shift by 64 or 65 is one by 0 or 1, ZERO must not stand for bit 0 nor ONE for bit 1
        wide(false, 0, 64);
        wide(false, 1, 65);
        wide(false, 63, 64);
        wide(false, 63, 65);
        wide(false, 63, 0);
        wide(false, 0, 63);
        wide(false, 31, 32);
        wide(false, 32, 31);
        wide(false, 32, 0);
        wide(false, 62, 63);
        BitShuffler x = new BitShuffler();
        x.width(64);
        x.target(31, 63);
        x.target(63, 32);
        x.target(32, 0);
        x.target(0, 31);
        Due.taken("invert() of a turn of four", x::invert);
        Due.same("source(63)", x.source(63), 31);
        Due.same("source(32)", x.source(32), 63);
        Due.same("source(0)", x.source(0), 32);
        Due.same("source(31)", x.source(31), 0);
    }

    private static void wide(boolean due, int bit, int source) {
        BitShuffler x = new BitShuffler();
        x.width(64);
        x.target(bit, source);
        String what = " of width 64 with bit " + bit + " from " + source;
        Due.same("make(2)" + what, Due.answer(() -> x.make(2)), due ? "1" : "throws.UnsupportedOperationException");
        Due.same("invert()" + what, Due.answer(() -> x.invert()), due ? "0" : "throws.UnsupportedOperationException");
    }

    /** "It works on three words: A, at first the given one, and T and R, at first 0; R is the result." */
    private static void wordsAtFirst() {
        for (int n : WIDTHS) {
            BitShuffler x = new BitShuffler();
            x.width(n);
            for (int kind : new int[] {0, 1, 3}) {
                x.make(kind);
                Due.same("width " + n + ", kind " + kind + ": run(-1)", x.run(-1), all(n));
                Due.same("width " + n + ", kind " + kind + ": then run(0)", x.run(0), 0);
                Due.same("width " + n + ", kind " + kind + ": then run(1)", x.run(1), 1);
            }
        }
        BitShuffler x = Look.of(1, 0);
        x.make(2);
        Due.same("run(1)", x.run(1), 2);
        Due.same("run(1) again", x.run(1), 2);
        Due.same("run(0)", x.run(0), 0);
    }

    /** "All bits beyond the width are 0 at any time." */
    private static void bitsBeyondTheWidth() {
        for (int n : WIDTHS) {
            BitShuffler x = new BitShuffler();
            x.width(n);
            for (int kind = 0; kind < 4; kind++) {
                if (kind != 2 || Integer.bitCount(n) == 1) {
                    x.make(kind);
                    Due.same("width " + n + ", kind " + kind + ": run(-1)", x.run(-1), all(n));
                    Due.same("width " + n + ", kind " + kind + ": only bits beyond", x.run(~all(n)), 0);
                }
            }
            if (n > 1) {
                x.make(0);
                x.patch(0, 1, 0);
                Due.same("width " + n + ": none is shifted beyond", x.run(-1), all(n) & ~1L);
                x.patch(0, -1, 0);
                Due.same("width " + n + ": none is shifted in from beyond", x.run(-1), all(n) >>> 1);
                x.make(1);
                x.patch(0, 1, 0);
                Due.same("width " + n + ": none is rotated in from beyond", x.run(~all(n) | 1), 2);
            }
        }
    }

    /** "(A field that an op does not name is 0.)" */
    private static void fieldsThatAreNotNamed() {
        BitShuffler x = Look.of(7, 6, 5, 4, 3, 2, 1, 0);
        for (int kind : new int[] {2, 0, 2, 1, 3, 2, 3, 0}) {
            Look.targets(x, 7, 6, 5, 4, 3, 2, 1, 0);
            x.make(kind);
            if (kind == 2) {
                // no field of these may be seen in the program that is made next
                x.patch(0, 3, 7);
                x.patch(1, 7, 1);
                x.patch(2, 5, 4);
            }
            int size = x.size();
            for (int i = 0; i < size; i++) {
                int op = x.step(i, false);
                String what = "kind " + kind + ", step " + i + ", op " + op;
                if (op != 0 && op != 1 && op != 5) {
                    Due.same(what + ": amount", x.step(i, true), 0);
                }
                if (op == 0 || op == 1 || op == 3 || op == 6) {
                    Due.same(what + ": mask", x.mask(i), 0);
                }
            }
        }
    }
}
