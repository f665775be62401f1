/**
 * The edges of the promises 1 to 4 and 11: a new object, width, target, source, direct. The remark
 * of each test is the sentence that it is for.
 */
public final class EdgesOfMapTest {
    private static final int[] FAR = {Integer.MIN_VALUE, -64, 64, 128, Integer.MAX_VALUE};
    private static final int[] WIDTHS = {1, 2, 3, 8, 31, 32, 33, 63, 64};

    public static void main(String[] args) {
        newWidth();
        newMap();
        newProgram();
        noMapsKept();
        widthsThatAreTaken();
        widthThatItIs();
        mapBehindWidth();
        programBehindWidth();
        keptMapsBehindWidth();
        widthsThatAreRefused();
        targetOfTheFirstAndTheLastBit();
        targetLeavesTheProgram();
        targetLeavesTheOthers();
        targetWithoutBit();
        targetWithoutSource();
        sourceOfTheFirstAndTheLastBit();
        sourceWithoutBit();
        directOfNothingAndOfAll();
        directBeyondTheWidth();
        directAtTheHighestBits();
        directChangesNothing();
        Due.end();
    }

    private static long all(int width) {
        return width == 64 ? -1L : (1L << width) - 1;
    }

    /** Promise 1: "Width 8" */
    private static void newWidth() {
        BitShuffler x = new BitShuffler();
        Due.taken("target(7, 7)", () -> x.target(7, 7));
        Due.refused("target(8, 7)", () -> x.target(8, 7));
        Due.refused("target(7, 8)", () -> x.target(7, 8));
        Due.same("origins(7)", x.origins(7), 0);
        Due.refused("origins(8)", () -> x.origins(8));
        Due.refused("constant(8)", () -> x.constant(8));
        Due.unsupported("least(), the width is above 4", x::least);
    }

    /** Promise 1: "each bit from itself" */
    private static void newMap() {
        BitShuffler x = new BitShuffler();
        Due.same("map", Look.map(x, 8), "0 1 2 3 4 5 6 7");
        Due.same("direct(0x5a)", x.direct(0x5a), 0x5a);
    }

    /** Promise 1: "an empty program" */
    private static void newProgram() {
        BitShuffler x = new BitShuffler();
        Due.same("size()", x.size(), 0);
        Due.same("ticks()", x.ticks(), 0);
        Due.same("run(-1)", x.run(-1), 0);
        Due.same("check()", x.check(), 1);
        Due.noIndex("step(0, false)", () -> x.step(0, false));
        Due.noIndex("mask(0)", () -> x.mask(0));
    }

    /** Promise 1: "no maps kept." */
    private static void noMapsKept() {
        BitShuffler x = new BitShuffler();
        Due.refused("join(0)", () -> x.join(0));
        Due.same("the first keep()", x.keep(), 0);
        Due.taken("join(0)", () -> x.join(0));
        BitShuffler other = new BitShuffler();
        Due.refused("join(0) of another object", () -> other.join(0));
    }

    /** Promise 2: "IllegalArgumentException: it is not 1 .. 64." The last ones that are taken, and all between. */
    private static void widthsThatAreTaken() {
        BitShuffler x = new BitShuffler();
        for (int n = 1; n <= 64; n++) {
            int width = n;
            Due.taken("width(" + n + ")", () -> x.width(width));
            Due.same("source(" + (n - 1) + ")", x.source(n - 1), n - 1);
            Due.refused("source(" + n + ")", () -> x.source(width));
            Due.same("direct(-1)", x.direct(-1), all(n));
        }
    }

    /** Promise 2: "The width (also the one that it is)" */
    private static void widthThatItIs() {
        for (int n : WIDTHS) {
            BitShuffler x = new BitShuffler();
            x.width(n);
            x.target(n - 1, 65);
            x.target(0, 64);
            x.make(0);
            Due.taken("width(" + n + ") again", () -> x.width(n));
            Due.same("source(0)", x.source(0), 0);
            Due.same("source(" + (n - 1) + ")", x.source(n - 1), n - 1);
            Due.same("size()", x.size(), 0);
            Due.refused("source(" + n + ")", () -> x.source(n));
        }
        BitShuffler x = new BitShuffler();
        x.target(0, 7);
        Due.taken("width(8) of a new one", () -> x.width(8));
        Due.same("map", Look.map(x, 8), "0 1 2 3 4 5 6 7");
    }

    /** Promise 2: "the map is as at first" */
    private static void mapBehindWidth() {
        BitShuffler x = Look.of(65, 64, 65, 64);
        x.width(3);
        Due.same("narrower", Look.map(x, 3), "0 1 2");
        x.target(2, 0);
        x.width(5);
        Due.same("wider", Look.map(x, 5), "0 1 2 3 4");
        Due.same("direct(-1)", x.direct(-1), 31);
        Due.same("direct(0)", x.direct(0), 0);
    }

    /** Promise 2: "and the program empty" */
    private static void programBehindWidth() {
        for (int kind = 0; kind < 4; kind++) {
            BitShuffler x = new BitShuffler();
            x.make(kind);
            x.width(7);
            Due.same("size()", x.size(), 0);
            Due.same("ticks()", x.ticks(), 0);
            Due.same("run(-1)", x.run(-1), 0);
            Due.same("check()", x.check(), 1);
            Due.same("origins(0)", x.origins(0), 0);
            Due.noIndex("step(0, true)", () -> x.step(0, true));
            Due.noIndex("patch(0, 0, 0)", () -> x.patch(0, 0, 0));
        }
    }

    /** Promise 2: "kept maps stay." None of eight goes, and there is no room for a ninth one. */
    private static void keptMapsBehindWidth() {
        BitShuffler x = new BitShuffler();
        for (int n = 1; n <= 8; n++) {
            x.width(n);
            x.target(0, n - 1);
            x.target(n - 1, n % 2 == 0 ? 64 : 65);
            x.keep();
        }
        x.width(64);
        Due.noState("a ninth one", x::keep);
        x.width(1);
        Due.noState("a ninth one at width 1", x::keep);
        x.join(0);
        Due.same("map 0", Look.map(x, 1), "65");
        x.width(2);
        x.join(1);
        Due.same("map 1", Look.map(x, 2), "1 64");
        x.width(7);
        x.join(6);
        Due.same("map 6", Look.map(x, 7), "6 1 2 3 4 5 65");
        x.width(8);
        x.join(7);
        Due.same("map 7", Look.map(x, 8), "7 1 2 3 4 5 6 64");
    }

    /** Promise 2: "IllegalArgumentException: it is not 1 .. 64." The first ones that are refused, and far ones. */
    private static void widthsThatAreRefused() {
        for (int n : new int[] {0, -1, 65, 66, -8, -64, 128, 256, Integer.MIN_VALUE, Integer.MAX_VALUE}) {
            Held.stays("width(" + n + ")", IllegalArgumentException.class, x -> x.width(n));
        }
    }

    /** Promise 3: "From where a bit of the result comes" The first bit and the last one, from either and from both constants. */
    private static void targetOfTheFirstAndTheLastBit() {
        for (int n : WIDTHS) {
            BitShuffler x = new BitShuffler();
            x.width(n);
            for (int bit : new int[] {0, n - 1}) {
                for (int source : new int[] {0, n - 1, 64, 65, bit}) {
                    Due.taken("target(" + bit + ", " + source + ") at width " + n, () -> x.target(bit, source));
                    Due.same("source(" + bit + ") at width " + n, x.source(bit), source);
                }
            }
        }
    }

    /** Promise 3: "(the program stays)" */
    private static void targetLeavesTheProgram() {
        BitShuffler x = Look.of(1, 0);
        x.make(2);
        x.target(0, 64);
        Due.same("steps", Look.steps(x), "5:1:1 6:0:0");
        Due.same("run(2)", x.run(2), 1);
        Due.same("direct(2)", x.direct(2), 0);
        Due.same("check()", x.check(), 1);
        BitShuffler empty = Look.of(1, 0);
        empty.target(0, 65);
        Due.same("an empty one stays empty", empty.size(), 0);
    }

    /** Promise 3: "From where a bit of the result comes" The other bits stay. */
    private static void targetLeavesTheOthers() {
        BitShuffler x = new BitShuffler();
        x.target(0, 65);
        Due.same("bit 0", Look.map(x, 8), "65 1 2 3 4 5 6 7");
        x.target(7, 64);
        Due.same("bit 7", Look.map(x, 8), "65 1 2 3 4 5 6 64");
        x.target(7, 0);
        Due.same("bit 7 again", Look.map(x, 8), "65 1 2 3 4 5 6 0");
    }

    /** Promise 3: "IllegalArgumentException: there is no such bit or source." No such bit. */
    private static void targetWithoutBit() {
        for (int bit : new int[] {-1, Held.WIDTH, Held.WIDTH + 1, 63, 64, 65, Integer.MIN_VALUE, Integer.MAX_VALUE}) {
            Held.stays("target(" + bit + ", 0)", IllegalArgumentException.class, x -> x.target(bit, 0));
        }
        for (int n : WIDTHS) {
            BitShuffler x = new BitShuffler();
            x.width(n);
            Due.refused("target(-1, 0) at width " + n, () -> x.target(-1, 0));
            Due.refused("target(" + n + ", 0) at width " + n, () -> x.target(n, 0));
            Due.refused("target(64, 64) at width " + n, () -> x.target(64, 64));
        }
    }

    /** Promise 3: "IllegalArgumentException: there is no such bit or source." No such source, or neither. */
    private static void targetWithoutSource() {
        for (int s : new int[] {-1, Held.WIDTH, Held.WIDTH + 1, 63, 66, 67, Integer.MIN_VALUE, Integer.MAX_VALUE}) {
            Held.stays("target(0, " + s + ")", IllegalArgumentException.class, x -> x.target(0, s));
        }
        Held.stays("target(5, 66)", IllegalArgumentException.class, x -> x.target(5, 66));
        Held.stays("target(-1, -1)", IllegalArgumentException.class, x -> x.target(-1, -1));
        for (int n : WIDTHS) {
            BitShuffler x = new BitShuffler();
            x.width(n);
            Due.refused("target(0, -1) at width " + n, () -> x.target(0, -1));
            Due.refused("target(0, 66) at width " + n, () -> x.target(0, 66));
            if (n < 64) {
                Due.refused("target(0, " + n + ") at width " + n, () -> x.target(0, n));
                Due.refused("target(0, 63) at width " + n, () -> x.target(0, 63));
            }
        }
    }

    /** Promise 4: "The source of a bit." */
    private static void sourceOfTheFirstAndTheLastBit() {
        for (int n : WIDTHS) {
            BitShuffler x = new BitShuffler();
            x.width(n);
            Due.same("source(0) at width " + n, x.source(0), 0);
            Due.same("source(" + (n - 1) + ") at width " + n, x.source(n - 1), n - 1);
            x.target(n - 1, 64);
            Due.same("ZERO at width " + n, x.source(n - 1), 64);
            x.target(n - 1, 65);
            Due.same("ONE at width " + n, x.source(n - 1), 65);
        }
    }

    /** Promise 4: "IllegalArgumentException: there is no such bit." */
    private static void sourceWithoutBit() {
        for (int bit : new int[] {-1, Held.WIDTH, Held.WIDTH + 1, 63, 65}) {
            Held.stays("source(" + bit + ")", IllegalArgumentException.class, x -> x.source(bit));
        }
        for (int bit : FAR) {
            Held.stays("source(" + bit + ")", IllegalArgumentException.class, x -> x.source(bit));
        }
        for (int n : WIDTHS) {
            BitShuffler x = new BitShuffler();
            x.width(n);
            Due.refused("source(-1) at width " + n, () -> x.source(-1));
            Due.refused("source(" + n + ") at width " + n, () -> x.source(n));
        }
    }

    /** Promise 11: "What the map makes of a word." No bit and all bits, ZERO and ONE alone. */
    private static void directOfNothingAndOfAll() {
        for (int n : WIDTHS) {
            BitShuffler x = new BitShuffler();
            x.width(n);
            Due.same("direct(0) at width " + n, x.direct(0), 0);
            Due.same("direct(-1) at width " + n, x.direct(-1), all(n));
            for (int k = 0; k < n; k++) {
                x.target(k, 65);
            }
            Due.same("direct(0) of ONEs at width " + n, x.direct(0), all(n));
            Due.same("direct(-1) of ONEs at width " + n, x.direct(-1), all(n));
            for (int k = 0; k < n; k++) {
                x.target(k, 64);
            }
            Due.same("direct(0) of ZEROs at width " + n, x.direct(0), 0);
            Due.same("direct(-1) of ZEROs at width " + n, x.direct(-1), 0);
        }
    }

    /** Promise 11: "What the map makes of a word." A word has the bits of the width alone. */
    private static void directBeyondTheWidth() {
        for (int n : WIDTHS) {
            BitShuffler x = new BitShuffler();
            x.width(n);
            for (int k = 0; k < n; k++) {
                x.target(k, n - 1 - k);
            }
            Due.same("only bits beyond " + n, x.direct(~all(n)), 0);
            Due.same("bit 0 and all beyond " + n, x.direct(1 | ~all(n)), 1L << (n - 1));
            Due.same("bit " + (n - 1) + " and all beyond", x.direct(1L << (n - 1) | ~all(n)), 1);
        }
    }

    /** Promise 11: "What the map makes of a word." The bits 31, 32 and 63. */
    private static void directAtTheHighestBits() {
        BitShuffler x = new BitShuffler();
        x.width(64);
        x.target(31, 63);
        x.target(63, 32);
        x.target(32, 31);
        Due.same("bit 63", x.direct(Long.MIN_VALUE), 1L << 31);
        Due.same("bit 32", x.direct(1L << 32), Long.MIN_VALUE);
        Due.same("bit 31", x.direct(1L << 31), 1L << 32);
        Due.same("all but bit 63", x.direct(Long.MAX_VALUE), ~(1L << 31));
        x.target(63, 65);
        x.target(32, 64);
        Due.same("ONE at bit 63", x.direct(0), Long.MIN_VALUE);
        Due.same("ZERO at bit 32", x.direct(-1), ~(1L << 32));
        // one source for all bits
        for (int k = 0; k < 64; k++) {
            x.target(k, 63);
        }
        Due.same("all from bit 63", x.direct(Long.MIN_VALUE), -1);
        Due.same("all from bit 63, which is 0", x.direct(Long.MAX_VALUE), 0);
    }

    /** Promise 11: "What the map makes of a word." Of the map, not of the program, and nothing changes. */
    private static void directChangesNothing() {
        BitShuffler x = Held.scene();
        x.direct(-1);
        x.direct(0);
        Due.same("behind direct", Held.of(x, Held.WIDTH), Held.of(Held.scene(), Held.WIDTH));
        BitShuffler empty = new BitShuffler();
        Due.same("without a program", empty.direct(0x1a5), 0xa5);
    }
}
