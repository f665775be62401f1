/**
 * What stands before the promises, where the tests of the edges have no sentence of it: the opening,
 * and what the map, a program and its kinds are. The remark of each test is the sentence that it is for.
 */
public final class OpeningTest {
    private static final int[] NO_PERMUTATION = {7, 0, 65, 3, 64, 0, 5, 65};
    private static final int[] PERMUTATION = {6, 2, 7, 0, 1, 5, 3, 4};

    public static void main(String[] args) {
        allInOne();
        severalObjects();
        mapOfEachPair();
        mapOfEachBit();
        rowOfSteps();
        fieldsOfSteps();
        kindsByTheirOps();
        madeOfTheMapAsItIs();
        bySymbolsOfAllWords();
        Due.end();
    }

    /**
     * "Makes programs that move the bits of a word to where they are wanted, for four kinds of
     * machines; runs them, finds by symbols from which bits each bit of the result comes, and tells
     * whether that is what was wanted."
     */
    private static void allInOne() {
        for (int kind = 0; kind < 4; kind++) {
            movesAllBits(kind, PERMUTATION);
            if (kind != 2) {
                movesAllBits(kind, NO_PERMUTATION);
            }
        }
    }

    private static void movesAllBits(int kind, int[] sources) {
        BitShuffler x = Look.of(sources);
        String what = "kind " + kind + " of " + Look.map(x, 8) + ": ";
        Due.same(what + "check() without a program", x.check(), 1);
        x.make(kind);
        for (int word = 0; word < 256; word += 5) {
            Due.same(what + "run(" + word + ")", x.run(word), moved(word, sources));
            Due.same(what + "direct(" + word + ")", x.direct(word), moved(word, sources));
        }
        for (int bit = 0; bit < 8; bit++) {
            Due.same(what + "origins(" + bit + ")", x.origins(bit), sources[bit] < 8 ? 1L << sources[bit] : 0);
            Due.yes(what + "constant(" + bit + ")", x.constant(bit) == (sources[bit] == 65));
        }
        Due.same(what + "check()", x.check(), 0);
        x.target(5, sources[5] == 0 ? 1 : 0);
        Due.same(what + "check() when something else is wanted", x.check(), 6);
        x.make(kind == 2 ? 3 : kind);
        Due.same(what + "check() when that has been made", x.check(), 0);
    }

    /** The bits one by one, as the map says. */
    private static long moved(int word, int[] sources) {
        long result = 0;
        for (int bit = 0; bit < sources.length; bit++) {
            boolean on = sources[bit] == 65 || sources[bit] < 8 && (word >> sources[bit]) % 2 == 1;
            result += on ? 1L << bit : 0;
        }
        return result;
    }

    /**
     * "An object is used for at most 512 calls after it has been made": each object for itself, so
     * two that take turns answer as one alone.
     */
    private static void severalObjects() {
        BitShuffler one = Look.of(PERMUTATION);
        BitShuffler other = Look.of(1, 2, 64, 65, 0);
        for (int turn = 0; turn < 20; turn++) {
            int kind = turn % 4;
            other.target(turn % 5, turn % 2 == 0 ? 65 : 64);
            one.make(kind);
            other.make(kind == 2 ? 1 : kind);
            Due.same("one: check()", one.check(), 0);
            Due.same("the other: check()", other.check(), 0);
            Due.same("one: run(0x35)", one.run(0x35), moved(0x35, PERMUTATION));
            Due.same("the other: run(9)", other.run(9), other.direct(9));
            Due.same("one: source(3)", one.source(3), 0);
        }
    }

    /** "THE MAP says for each bit of the result from which bit of the word it comes" Each bit from each bit. */
    private static void mapOfEachPair() {
        for (int n : new int[] {1, 2, 5, 8, 16, 33, 64}) {
            for (int bit = 0; bit < n; bit++) {
                BitShuffler x = new BitShuffler();
                x.width(n);
                for (int source = 0; source < n; source++) {
                    x.target(bit, source);
                    long due = source == bit ? 1L << bit : 1L << source | 1L << bit;
                    Due.same("width " + n + ", bit " + bit + " from " + source, x.direct(1L << source), due);
                    if (source != bit) {
                        Due.same("width " + n + ", bit " + bit + " not from itself", x.direct(1L << bit), 0);
                    }
                }
            }
        }
    }

    /** "THE MAP says for each bit of the result from which bit of the word it comes" Each one of its own. */
    private static void mapOfEachBit() {
        for (int n = 1; n <= 64; n++) {
            BitShuffler x = new BitShuffler();
            x.width(n);
            for (int bit = 0; bit < n; bit++) {
                x.target(bit, (bit * bit + 3 * bit + 1) % n);
            }
            for (int source = 0; source < n; source++) {
                long due = 0;
                for (int bit = 0; bit < n; bit++) {
                    due |= (bit * bit + 3 * bit + 1) % n == source ? 1L << bit : 0;
                }
                Due.same("width " + n + ", where bit " + source + " goes", x.direct(1L << source), due);
            }
        }
    }

    /** "A PROGRAM is a row of STEPS, each with an OP, an AMOUNT d and a MASK m." They work one behind the other. */
    private static void rowOfSteps() {
        BitShuffler x = Look.of(1, 3, 0, 2);
        Due.same("steps", Look.made(x, 2), "5:2:1 5:1:1 5:2:2 6:0:0");
        Due.same("run(1)", x.run(1), 4);
        Due.same("run(2)", x.run(2), 1);
        // the bits 0 and 1 change places, and then 0 and 2: the other way round, bit 0 would get to 2
        x.patch(0, 1, 1);
        x.patch(1, 2, 1);
        x.patch(2, 3, 0);
        Due.same("run(1) behind patches", x.run(1), 2);
        Due.same("run(2) behind patches", x.run(2), 4);
        Due.same("run(4) behind patches", x.run(4), 1);
        Due.same("origins(0) behind patches", x.origins(0), 4);
        x.patch(0, 2, 1);
        x.patch(1, 1, 1);
        Due.same("run(1) the other way round", x.run(1), 4);
        Due.same("run(2) the other way round", x.run(2), 1);
        Due.same("run(4) the other way round", x.run(4), 2);
    }

    /** "A PROGRAM is a row of STEPS, each with an OP, an AMOUNT d and a MASK m." Each step has all three of its own. */
    private static void fieldsOfSteps() {
        BitShuffler x = Look.of(4, 4, 65, 64, 1);
        Due.same("make(0)", x.make(0), 10);
        int[] ops = {0, 2, 3, 0, 2, 3, 0, 2, 3, 4};
        int[] amounts = {-4, 0, 0, -3, 0, 0, 3, 0, 0, 0};
        long[] masks = {0, 1, 0, 0, 2, 0, 0, 16, 0, 4};
        for (int i = 0; i < ops.length; i++) {
            Due.same("op of step " + i, x.step(i, false), ops[i]);
            Due.same("amount of step " + i, x.step(i, true), amounts[i]);
            Due.same("mask of step " + i, x.mask(i), masks[i]);
        }
    }

    /** "KINDS of programs that are made of the map" Each with the ops of its machine, 0 to 3 in the document's order. */
    private static void kindsByTheirOps() {
        BitShuffler x = Look.of(PERMUTATION);
        opsOf(x, 0, 0, 2, 3);
        opsOf(x, 1, 1, 2, 3);
        opsOf(x, 3, 7, 8, 3);
        int size = x.make(2);
        for (int i = 0; i < size; i++) {
            Due.same("kind 2, op of step " + i, x.step(i, false), i < size - 1 ? 5 : 6);
        }
    }

    private static void opsOf(BitShuffler x, int kind, int... ops) {
        int size = x.make(kind);
        Due.yes("kind " + kind + " has steps", size > 0);
        for (int i = 0; i < size; i++) {
            Due.same("kind " + kind + ", op of step " + i, x.step(i, false), ops[i % ops.length]);
        }
    }

    /** "KINDS of programs that are made of the map" As it is then: what it becomes later is another matter. */
    private static void madeOfTheMapAsItIs() {
        for (int kind = 0; kind < 4; kind++) {
            BitShuffler x = Look.of(PERMUTATION);
            x.make(kind);
            String steps = Look.steps(x);
            x.keep();
            x.invert();
            x.join(0);
            x.target(7, 7);
            Due.same("kind " + kind + ": steps", Look.steps(x), steps);
            Due.same("kind " + kind + ": run(0x35)", x.run(0x35), moved(0x35, PERMUTATION));
            Due.same("kind " + kind + ": check() of the map as it is now", x.check(), 1);
        }
    }

    /**
     * "BY SYMBOLS: each bit of A, T and R has a set of bits of the given word of which it is the or,
     * and is or with 1 perhaps" So the sets tell what every word becomes.
     */
    private static void bySymbolsOfAllWords() {
        for (int kind : new int[] {0, 1, 3}) {
            BitShuffler x = Look.of(2, 65, 0, 0, 64);
            x.make(kind);
            int size = x.size();
            for (int i = 0; i < size; i++) {
                int op = x.step(i, false);
                // wider masks bring more bits than the map wants
                x.patch(i, x.step(i, true), op == 3 || op < 2 ? 0 : x.mask(i) | 1L << (i % 5));
            }
            long[] sets = new long[5];
            boolean[] ones = new boolean[5];
            for (int bit = 0; bit < 5; bit++) {
                sets[bit] = x.origins(bit);
                ones[bit] = x.constant(bit);
            }
            for (int word = 0; word < 32; word++) {
                long due = 0;
                for (int bit = 0; bit < 5; bit++) {
                    due |= ones[bit] || (sets[bit] & word) != 0 ? 1L << bit : 0;
                }
                Due.same("kind " + kind + ": run(" + word + ")", x.run(word), due);
            }
        }
    }
}
