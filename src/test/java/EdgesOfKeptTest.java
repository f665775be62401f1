/**
 * The edges of the promises 16 to 18: keep, join, invert. The remark of each test is the sentence
 * that it is for.
 */
public final class EdgesOfKeptTest {
    public static void main(String[] args) {
        numbersOfKeptMaps();
        keptMapIsTheMap();
        keepLeavesTheRest();
        eighthAndNinth();
        joinFirstItself();
        joinOfTheFirstAndTheLast();
        joinOfConstants();
        joinWithItself();
        joinAtTheHighestBits();
        joinLeavesTheRest();
        joinOfNone();
        joinOfAnotherWidth();
        invertBringsAllBack();
        invertOfFewBits();
        invertAtTheHighestBits();
        invertLeavesTheRest();
        invertOfNoPermutation();
        Due.end();
    }

    /** Promise 16: "The map is kept: its number, 0, 1, .." */
    private static void numbersOfKeptMaps() {
        BitShuffler x = new BitShuffler();
        for (int k = 0; k < 8; k++) {
            // the same map, another one and one of another width all get a number of their own
            x.width(k < 4 ? 8 : k);
            Due.same("keep() number " + k, x.keep(), k);
        }
    }

    /** Promise 16: "The map is kept" As it is now: what comes later does not change it. */
    private static void keptMapIsTheMap() {
        BitShuffler x = Look.of(2, 65, 64);
        x.keep();
        x.target(0, 1);
        x.keep();
        x.width(3);
        x.target(2, 0);
        x.join(0);
        Due.same("map 0", Look.map(x, 3), "0 65 64");
        x.width(3);
        x.join(1);
        Due.same("map 1", Look.map(x, 3), "1 65 64");
        x.target(1, 1);
        x.width(3);
        x.join(1);
        Due.same("map 1 again", Look.map(x, 3), "1 65 64");
    }

    /** Promise 16: "The map is kept" The map and the program stay. */
    private static void keepLeavesTheRest() {
        BitShuffler x = Held.scene();
        Due.same("keep()", x.keep(), Held.KEPT);
        Due.same("behind keep", Held.of(x, Held.WIDTH), Held.of(Held.scene(), Held.WIDTH));
    }

    /** Promise 16: "IllegalStateException: 8 are kept." */
    private static void eighthAndNinth() {
        BitShuffler x = full();
        String before = Held.of(x, 4);
        Due.noState("a ninth keep()", x::keep);
        Due.same("behind the ninth", Held.of(x, 4), before);
        Due.noState("a tenth keep()", x::keep);
        Due.refused("join(8)", () -> x.join(8));
        x.width(2);
        Due.noState("keep() at another width", x::keep);
        x.width(4);
        x.join(7);
        Due.same("the eighth", Look.map(x, 4), "3 2 1 0");
        Due.noState("keep() behind join", x::keep);
        x.width(4);
        Due.taken("join(0)", () -> x.join(0));
        Due.same("the first", Look.map(x, 4), "0 1 2 65");
        Due.same("all eight stay", Held.kept(x, 4), Held.kept(full(), 4));
    }

    /** Eight kept maps of the width 4, the last of them 3 2 1 0, and a program. */
    private static BitShuffler full() {
        BitShuffler x = Look.of(0, 1, 2, 65);
        for (int k = 0; k < 7; k++) {
            x.keep();
        }
        Look.targets(x, 3, 2, 1, 0);
        Due.same("the eighth keep()", x.keep(), 7);
        Look.targets(x, 64, 1, 3, 65);
        x.make(1);
        return x;
    }

    /**
     * Promise 17: "The map becomes: first itself, then kept map k (what that wants from bit s comes
     * from where s comes)."
     */
    private static void joinFirstItself() {
        BitShuffler x = Look.of(1, 2, 0);
        x.keep();
        Look.targets(x, 1, 0, 2);
        x.join(0);
        // bit 0 wants bit 1, which comes from 0; the other way round it would come from 2
        Due.same("first itself", Look.map(x, 3), "0 2 1");
    }

    /** Promise 17: "IllegalArgumentException: there is none" The first and the last one that there is. */
    private static void joinOfTheFirstAndTheLast() {
        BitShuffler x = full();
        for (int k = 0; k < 8; k++) {
            int number = k;
            x.width(4);
            Due.taken("join(" + k + ")", () -> x.join(number));
            Due.same("map behind join(" + k + ")", Look.map(x, 4), k < 7 ? "0 1 2 65" : "3 2 1 0");
        }
    }

    /**
     * Promise 17: "(what that wants from bit s comes from where s comes)" ZERO and ONE, of the kept
     * map, which wants them from no bit, and of the map.
     */
    private static void joinOfConstants() {
        BitShuffler x = Look.of(64, 65, 0, 1);
        x.keep();
        Look.targets(x, 65, 64, 2, 3);
        x.join(0);
        Due.same("constants of both", Look.map(x, 4), "64 65 65 64");
        x.join(0);
        Due.same("again", Look.map(x, 4), "64 65 64 65");
        BitShuffler one = Look.of(65);
        one.keep();
        one.target(0, 64);
        one.join(0);
        Due.same("ONE behind ZERO at width 1", one.source(0), 65);
        BitShuffler itself = Look.of(0);
        itself.keep();
        itself.target(0, 64);
        itself.join(0);
        Due.same("itself behind ZERO at width 1", itself.source(0), 64);
    }

    /** Promise 17: "The map becomes: first itself, then kept map k" The kept map stays, and may be joined again. */
    private static void joinWithItself() {
        BitShuffler x = Look.of(1, 2, 3, 4, 0);
        x.keep();
        String[] due = {"2 3 4 0 1", "3 4 0 1 2", "4 0 1 2 3", "0 1 2 3 4", "1 2 3 4 0"};
        for (String map : due) {
            x.join(0);
            Due.same("joined again", Look.map(x, 5), map);
        }
    }

    /** Promise 17: "(what that wants from bit s comes from where s comes)" The bits 31, 32 and 63. */
    private static void joinAtTheHighestBits() {
        BitShuffler x = new BitShuffler();
        x.width(64);
        x.target(63, 31);
        x.target(31, 32);
        x.target(0, 63);
        x.keep();
        x.width(64);
        x.target(31, 63);
        x.target(32, 65);
        x.target(63, 64);
        x.join(0);
        Due.same("source(63)", x.source(63), 63);
        Due.same("source(31)", x.source(31), 65);
        Due.same("source(0)", x.source(0), 64);
        Due.same("source(32)", x.source(32), 65);
        Due.same("source(62)", x.source(62), 62);
        Due.same("direct(bit 63)", x.direct(Long.MIN_VALUE), Long.MIN_VALUE | 1L << 31 | 1L << 32);
    }

    /** Promise 17: "The map becomes: first itself, then kept map k" The program and the kept maps stay. */
    private static void joinLeavesTheRest() {
        BitShuffler x = Held.scene();
        String steps = Look.steps(x);
        long run = x.run(-1);
        x.join(1);
        Due.same("map", Look.map(x, Held.WIDTH), "0 2 65 64 64");
        Due.same("steps", Look.steps(x), steps);
        Due.same("run(-1)", x.run(-1), run);
        Due.same("kept maps", Held.kept(x, 3, Held.WIDTH), Held.kept(Held.scene(), 3, Held.WIDTH));
    }

    /** Promise 17: "IllegalArgumentException: there is none" */
    private static void joinOfNone() {
        for (int k : new int[] {-1, Held.KEPT, Held.KEPT + 1, 7, 8, 9, Integer.MIN_VALUE, Integer.MAX_VALUE}) {
            Held.stays("join(" + k + ")", IllegalArgumentException.class, x -> x.join(k));
        }
        BitShuffler none = new BitShuffler();
        for (int k : new int[] {-1, 0, 1, 7, 8}) {
            Due.refused("join(" + k + ") without kept maps", () -> none.join(k));
        }
        BitShuffler x = full();
        Due.refused("join(-1) of eight", () -> x.join(-1));
        Due.refused("join(8) of eight", () -> x.join(8));
        Due.same("map", Look.map(x, 4), "64 1 3 65");
    }

    /** Promise 17: "IllegalStateException: it has another width." One less, one more, the least and the greatest. */
    private static void joinOfAnotherWidth() {
        Held.stays("join(0)", IllegalStateException.class, x -> x.join(0));
        for (int kept : new int[] {1, 2, 31, 32, 33, 63, 64}) {
            BitShuffler x = new BitShuffler();
            x.width(kept);
            x.keep();
            for (int n : new int[] {1, kept - 1, kept + 1, 64}) {
                if (n >= 1 && n <= 64 && n != kept) {
                    x.width(n);
                    x.target(n - 1, 65);
                    String what = "join of width " + kept + " at width " + n;
                    Due.noState(what, () -> x.join(0));
                    Due.same("source behind " + what, x.source(n - 1), 65);
                }
            }
            x.width(kept);
            Due.taken("join of width " + kept, () -> x.join(0));
        }
    }

    /** Promise 18: "The map becomes the one that brings all bits back." */
    private static void invertBringsAllBack() {
        for (int n = 1; n <= 64; n++) {
            BitShuffler x = new BitShuffler();
            x.width(n);
            for (int k = 0; k < n; k++) {
                x.target(k, (k + n / 3 + 1) % n);
            }
            x.keep();
            long there = x.direct(0x123456789abcdef1L);
            x.invert();
            long due = n == 64 ? 0x123456789abcdef1L : 0x123456789abcdef1L & ((1L << n) - 1);
            Due.same("back at width " + n, x.direct(there), due);
            x.join(0);
            for (int k = 0; k < n; k++) {
                Due.same("bit " + k + " is back at width " + n, x.source(k), k);
            }
        }
    }

    /** Promise 18: "The map becomes the one that brings all bits back." One bit, two bits, no bit moved. */
    private static void invertOfFewBits() {
        inverted("0", 0);
        inverted("1 0", 1, 0);
        inverted("0 1", 0, 1);
        inverted("2 0 1", 1, 2, 0);
        inverted("1 2 0", 2, 0, 1);
        inverted("0 1 2 3 4 5 6 7", 0, 1, 2, 3, 4, 5, 6, 7);
        inverted("7 0 1 2 3 4 5 6", 1, 2, 3, 4, 5, 6, 7, 0);
    }

    private static void inverted(String due, int... sources) {
        BitShuffler x = Look.of(sources);
        String before = Look.map(x, sources.length);
        x.invert();
        Due.same("invert() of " + before, Look.map(x, sources.length), due);
        x.invert();
        Due.same("invert() twice of " + before, Look.map(x, sources.length), before);
    }

    /** Promise 18: "The map becomes the one that brings all bits back." The bits 31, 32 and 63. */
    private static void invertAtTheHighestBits() {
        BitShuffler x = new BitShuffler();
        x.width(64);
        x.target(63, 31);
        x.target(31, 32);
        x.target(32, 63);
        x.invert();
        Due.same("source(31)", x.source(31), 63);
        Due.same("source(32)", x.source(32), 31);
        Due.same("source(63)", x.source(63), 32);
        Due.same("source(62)", x.source(62), 62);
    }

    /** Promise 18: "The map becomes the one that brings all bits back." The program and the kept maps stay. */
    private static void invertLeavesTheRest() {
        BitShuffler x = Look.of(1, 2, 0);
        x.keep();
        x.make(0);
        String steps = Look.steps(x);
        x.invert();
        Due.same("steps", Look.steps(x), steps);
        Due.same("run(1)", x.run(1), 4);
        Due.same("direct(1)", x.direct(1), 2);
        Due.same("check()", x.check(), 1);
        x.width(3);
        x.join(0);
        Due.same("kept map", Look.map(x, 3), "1 2 0");
    }

    /** Promise 18: "UnsupportedOperationException: it is no permutation." */
    private static void invertOfNoPermutation() {
        Held.stays("invert()", UnsupportedOperationException.class, x -> x.invert());
        for (int n : new int[] {1, 2, 4, 8, 31, 32, 33, 63, 64}) {
            notInverted(n, 0, 64);
            notInverted(n, 0, 65);
            notInverted(n, n - 1, 64);
            notInverted(n, n - 1, 65);
            if (n > 1) {
                notInverted(n, 0, n - 1);
                notInverted(n, n - 1, 0);
                notInverted(n, n - 1, n - 2);
            }
        }
    }

    private static void notInverted(int width, int bit, int source) {
        BitShuffler x = new BitShuffler();
        x.width(width);
        x.target(bit, source);
        x.make(0);
        int size = x.size();
        String what = "invert() at width " + width + ", bit " + bit + " from " + source;
        Due.unsupported(what, x::invert);
        for (int k = 0; k < width; k++) {
            Due.same("source(" + k + ") behind " + what, x.source(k), k == bit ? source : k);
        }
        Due.same("size() behind " + what, x.size(), size);
        x.target(bit, bit);
        Due.taken("invert() at width " + width + " with bit " + bit + " from itself", x::invert);
    }
}
