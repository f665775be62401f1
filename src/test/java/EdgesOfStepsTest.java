/**
 * The edges of the promises 6 to 9 and 15: size, step, mask, patch, ticks. The remark of each test
 * is the sentence that it is for.
 */
public final class EdgesOfStepsTest {
    private static final int[] WIDTHS = {1, 2, 3, 8, 31, 32, 33, 63, 64};

    public static void main(String[] args) {
        sizes();
        firstAndLastStep();
        noSuchStep();
        firstAndLastMask();
        masksAtTheHighestBits();
        noSuchMask();
        patchesOneStep();
        patchesTheSameAgain();
        noStepToPatch();
        shiftAmounts();
        rotateAmounts();
        masksOfEachWidth();
        masksOfAllBits();
        swapDistances();
        swapMasksBelowTheWidth();
        swapMasksWithoutPartners();
        swapMasksAtTheHighestBits();
        emptyMasks();
        fieldsThatMustBeZero();
        refusedPatchesChangeNothing();
        ticksOfNothing();
        ticksOfEachOp();
        ticksOfTheLongest();
        Due.end();
    }

    private static long all(int width) {
        return width == 64 ? -1L : (1L << width) - 1;
    }

    /** A program with a SET as its last step; but for width 1, which has the SET alone: SHIFT, MASK, OR, SET. */
    private static BitShuffler withSet(int width, int kind) {
        BitShuffler x = new BitShuffler();
        x.width(width);
        x.target(0, 65);
        x.make(kind);
        return x;
    }

    private static BitShuffler plain(int width, int kind) {
        BitShuffler x = new BitShuffler();
        x.width(width);
        x.make(kind);
        return x;
    }

    private static BitShuffler oneSwap(int width) {
        BitShuffler x = new BitShuffler();
        x.width(width);
        x.target(0, 1);
        x.target(1, 0);
        x.make(2);
        Due.same("a swap and a move", Look.steps(x), "5:1:1 6:0:0");
        return x;
    }

    private static String told(BitShuffler x, int i, int amount, long mask) {
        return "patch(" + i + ", " + amount + ", " + Long.toHexString(mask) + ") of op " + x.step(i, false);
    }

    private static void takes(BitShuffler x, int i, int amount, long mask) {
        int op = x.step(i, false);
        String what = told(x, i, amount, mask);
        Due.taken(what, () -> x.patch(i, amount, mask));
        Due.same("op behind " + what, x.step(i, false), op);
        Due.same("amount behind " + what, x.step(i, true), amount);
        Due.same("mask behind " + what, x.mask(i), mask);
    }

    private static void refuses(BitShuffler x, int i, int amount, long mask) {
        int amountBefore = x.step(i, true);
        long maskBefore = x.mask(i);
        String what = told(x, i, amount, mask);
        Due.refused(what, () -> x.patch(i, amount, mask));
        Due.same("amount behind " + what, x.step(i, true), amountBefore);
        Due.same("mask behind " + what, x.mask(i), maskBefore);
    }

    /** Promise 6: "How many steps the program has." None, one, the most; behind calls that leave it. */
    private static void sizes() {
        BitShuffler x = new BitShuffler();
        Due.same("new", x.size(), 0);
        Look.targets(x, 64, 64, 64, 64, 64, 64, 64, 64);
        x.make(0);
        Due.same("ZEROs", x.size(), 0);
        x.target(7, 65);
        Due.same("behind target", x.size(), 0);
        x.make(0);
        Due.same("a SET", x.size(), 1);
        Due.unsupported("make(2)", () -> x.make(2));
        Due.same("behind a refused make", x.size(), 1);
        x.patch(0, 0, 0);
        Due.same("behind patch: a SET with an empty mask is a step", x.size(), 1);
        x.width(64);
        Due.same("behind width", x.size(), 0);
        for (int k = 0; k < 64; k++) {
            x.target(k, 63 - k);
        }
        x.make(3);
        Due.same("the most", x.size(), 192);
    }

    /** Promise 7: "Of step i: its op, or its amount (distance)." The first step and the last one. */
    private static void firstAndLastStep() {
        BitShuffler x = Look.of(2, 1, 0);
        x.make(0);
        Due.same("step(0, false)", x.step(0, false), 0);
        Due.same("step(0, true)", x.step(0, true), -2);
        Due.same("step(6, true)", x.step(6, true), 2);
        Due.same("step(8, false)", x.step(8, false), 3);
        Due.same("step(8, true)", x.step(8, true), 0);
        BitShuffler wide = new BitShuffler();
        wide.width(64);
        for (int k = 0; k < 64; k++) {
            wide.target(k, 63 - k);
        }
        wide.make(0);
        Due.same("step(0, true) of 192", wide.step(0, true), -63);
        Due.same("step(189, true) of 192", wide.step(189, true), 63);
        Due.same("step(191, false) of 192", wide.step(191, false), 3);
        Due.noIndex("step(192, false)", () -> wide.step(192, false));
        BitShuffler one = plain(1, 2);
        Due.same("one step alone: op", one.step(0, false), 6);
        Due.same("one step alone: amount", one.step(0, true), 0);
        Due.noIndex("step(1, false)", () -> one.step(1, false));
    }

    /** Promise 7: "IndexOutOfBoundsException: there is none." */
    private static void noSuchStep() {
        for (int i : new int[] {-1, Held.SIZE, Held.SIZE + 1, 192, Integer.MIN_VALUE, Integer.MAX_VALUE}) {
            Held.stays("step(" + i + ", false)", IndexOutOfBoundsException.class, x -> x.step(i, false));
            Held.stays("step(" + i + ", true)", IndexOutOfBoundsException.class, x -> x.step(i, true));
        }
        BitShuffler empty = new BitShuffler();
        for (int i : new int[] {-1, 0, 1}) {
            Due.noIndex("step(" + i + ", false) without steps", () -> empty.step(i, false));
            Due.noIndex("step(" + i + ", true) without steps", () -> empty.step(i, true));
        }
    }

    /** Promise 8: "The mask of step i." The first step and the last one. */
    private static void firstAndLastMask() {
        BitShuffler x = Look.of(1, 65);
        x.make(3);
        Due.same("mask(0)", x.mask(0), 2);
        Due.same("mask(2) of OR", x.mask(2), 0);
        Due.same("mask(3)", x.mask(3), 2);
        Due.noIndex("mask(4)", () -> x.mask(4));
    }

    /** Promise 8: "The mask of step i." The bits 31, 32 and 63. */
    private static void masksAtTheHighestBits() {
        for (int bit : new int[] {31, 32, 63}) {
            BitShuffler x = plain(64, 3);
            Due.same("all bits", x.mask(0), -1);
            x.patch(0, 0, 1L << bit);
            x.patch(1, 0, ~(1L << bit));
            Due.same("bit " + bit, x.mask(0), 1L << bit);
            Due.same("all but bit " + bit, x.mask(1), ~(1L << bit));
        }
        for (int n : WIDTHS) {
            Due.same("all bits of width " + n, plain(n, 0).mask(1), all(n));
        }
    }

    /** Promise 8: "IndexOutOfBoundsException: there is none." */
    private static void noSuchMask() {
        for (int i : new int[] {-1, Held.SIZE, Held.SIZE + 1, 192, Integer.MIN_VALUE, Integer.MAX_VALUE}) {
            Held.stays("mask(" + i + ")", IndexOutOfBoundsException.class, x -> x.mask(i));
        }
        BitShuffler empty = new BitShuffler();
        for (int i : new int[] {-1, 0, 1}) {
            Due.noIndex("mask(" + i + ") without steps", () -> empty.mask(i));
        }
    }

    /** Promise 9: "Step i has another amount and mask." The first step, the last one, and no other. */
    private static void patchesOneStep() {
        BitShuffler x = Look.of(1, 0, 65);
        x.make(0);
        x.patch(0, 2, 0);
        Due.same("the first", Look.steps(x), "0:2:0 2:0:1 3:0:0 0:1:0 2:0:2 3:0:0 4:0:4");
        x.patch(6, 0, 7);
        Due.same("the last", Look.steps(x), "0:2:0 2:0:1 3:0:0 0:1:0 2:0:2 3:0:0 4:0:7");
        x.patch(4, 0, 0);
        Due.same("one between", Look.steps(x), "0:2:0 2:0:1 3:0:0 0:1:0 2:0:0 3:0:0 4:0:7");
        Due.same("the map stays", Look.map(x, 3), "1 0 65");
        Due.same("run(1)", x.run(1), 7);
    }

    /** Promise 9: "Step i has another amount and mask." The ones that it has are taken too. */
    private static void patchesTheSameAgain() {
        for (int kind = 0; kind < 4; kind++) {
            BitShuffler x = Look.of(1, 0, 3, 2);
            int size = x.make(kind);
            String before = Look.steps(x);
            for (int i = 0; i < size; i++) {
                takes(x, i, x.step(i, true), x.mask(i));
            }
            Due.same("steps", Look.steps(x), before);
        }
    }

    /** Promise 9: "IndexOutOfBoundsException: there is none" */
    private static void noStepToPatch() {
        for (int i : new int[] {-1, Held.SIZE, Held.SIZE + 1, 192, Integer.MIN_VALUE, Integer.MAX_VALUE}) {
            Held.stays("patch(" + i + ", 0, 0)", IndexOutOfBoundsException.class, x -> x.patch(i, 0, 0));
            Held.stays("patch(" + i + ", 64, -1)", IndexOutOfBoundsException.class, x -> x.patch(i, 64, -1));
        }
        BitShuffler empty = new BitShuffler();
        for (int i : new int[] {-1, 0, 1}) {
            Due.noIndex("patch(" + i + ", 0, 0) without steps", () -> empty.patch(i, 0, 0));
        }
        BitShuffler one = plain(1, 2);
        takes(one, 0, 0, 0);
        Due.noIndex("patch(1, 0, 0) of one step", () -> one.patch(1, 0, 0));
    }

    /**
     * Promise 9: "IllegalArgumentException: they are not as its op says", with "SHIFT: T is A shifted
     * by d, to higher places if d is above 0, to lower ones if it is below; -width < d < width."
     */
    private static void shiftAmounts() {
        for (int n : WIDTHS) {
            BitShuffler x = plain(n, 0);
            takes(x, 0, n - 1, 0);
            refuses(x, 0, n, 0);
            takes(x, 0, 1 - n, 0);
            refuses(x, 0, -n, 0);
            takes(x, 0, 0, 0);
            refuses(x, 0, n + 1, 0);
            refuses(x, 0, -n - 1, 0);
            refuses(x, 0, 64, 0);
            refuses(x, 0, -64, 0);
            refuses(x, 0, Integer.MIN_VALUE, 0);
            refuses(x, 0, Integer.MAX_VALUE, 0);
        }
    }

    /**
     * Promise 9: "IllegalArgumentException: they are not as its op says", with "ROTATE: T is A with
     * each bit k moved to place (k + d) modulo width; 0 <= d < width."
     */
    private static void rotateAmounts() {
        for (int n : WIDTHS) {
            BitShuffler x = plain(n, 1);
            takes(x, 0, n - 1, 0);
            refuses(x, 0, n, 0);
            takes(x, 0, 0, 0);
            refuses(x, 0, -1, 0);
            refuses(x, 0, -n, 0);
            refuses(x, 0, n + 1, 0);
            refuses(x, 0, 64, 0);
            refuses(x, 0, Integer.MIN_VALUE, 0);
            refuses(x, 0, Integer.MAX_VALUE, 0);
        }
    }

    private static void masksAt(BitShuffler x, int i, int n) {
        takes(x, i, 0, 1L << (n - 1));
        takes(x, i, 0, all(n));
        if (n < 64) {
            refuses(x, i, 0, 1L << n);
            refuses(x, i, 0, all(n) + 1 | 1);
            refuses(x, i, 0, Long.MIN_VALUE);
            refuses(x, i, 0, -1L);
        }
        if (n <= 32) {
            refuses(x, i, 0, 1L << 32);
        }
        if (n <= 31) {
            refuses(x, i, 0, 1L << 31);
            refuses(x, i, 0, -1L << 31);
        }
        takes(x, i, 0, 1);
        takes(x, i, 0, 0);
    }

    /** Promise 9: "and no mask have bits beyond the width" MASK, SET, GATHER and SCATTER of each width. */
    private static void masksOfEachWidth() {
        for (int n = 1; n <= 64; n++) {
            masksAt(plain(n, 0), 1, n);
            masksAt(plain(n, 3), 0, n);
            masksAt(plain(n, 3), 1, n);
            BitShuffler x = withSet(n, 0);
            masksAt(x, x.size() - 1, n);
        }
    }

    /** Promise 9: "and no mask have bits beyond the width" At width 64 no bit is beyond. */
    private static void masksOfAllBits() {
        for (int bit : new int[] {0, 31, 32, 63}) {
            takes(plain(64, 0), 1, 0, 1L << bit);
            takes(plain(64, 3), 0, 0, 1L << bit);
            takes(plain(64, 3), 1, 0, 1L << bit);
            takes(withSet(64, 0), 3, 0, 1L << bit);
        }
        takes(plain(64, 0), 1, 0, Long.MIN_VALUE);
        takes(withSet(64, 3), 3, 0, -1L);
    }

    /**
     * Promise 9: "IllegalArgumentException: they are not as its op says", with "SWAP: in A the bits k
     * and k + d change places for each bit k of m; 0 < d < width"
     */
    private static void swapDistances() {
        for (int n = 2; n <= 64; n *= 2) {
            BitShuffler x = oneSwap(n);
            takes(x, 0, 1, 1);
            refuses(x, 0, 0, 1);
            refuses(x, 0, 0, 0);
            refuses(x, 0, -1, 1);
            refuses(x, 0, -1, 2);
            refuses(x, 0, -1, 0);
            takes(x, 0, n - 1, 1);
            refuses(x, 0, n, 1);
            refuses(x, 0, n, 0);
            refuses(x, 0, 64, 1);
            refuses(x, 0, 65, 0);
            refuses(x, 0, Integer.MIN_VALUE, 0);
            refuses(x, 0, Integer.MAX_VALUE, 1);
        }
    }

    /** Promise 9: "IllegalArgumentException: they are not as its op says", with "k + d is below width" */
    private static void swapMasksBelowTheWidth() {
        for (int n = 2; n <= 64; n *= 2) {
            for (int d = 1; d < n; d++) {
                BitShuffler x = oneSwap(n);
                takes(x, 0, d, 1L << (n - 1 - d));
                refuses(x, 0, d, 1L << (n - d));
                refuses(x, 0, d, 1L << (n - 1));
                if (n < 64) {
                    refuses(x, 0, d, 1L << n);
                    refuses(x, 0, d, Long.MIN_VALUE);
                }
            }
        }
    }

    /** Promise 9: "IllegalArgumentException: they are not as its op says", with "and is no bit of m." */
    private static void swapMasksWithoutPartners() {
        for (int n = 4; n <= 64; n *= 2) {
            for (int d = 1; 2 * d < n; d++) {
                BitShuffler x = oneSwap(n);
                takes(x, 0, d, 1);
                takes(x, 0, d, 1L << d);
                refuses(x, 0, d, 1L | 1L << d);
                long last = 1L << (n - 1 - d);
                refuses(x, 0, d, last | last >>> d);
                // bits that lie two distances apart, or next to each other with a greater one, are fine
                if (3 * d < n) {
                    takes(x, 0, d, 1L | 1L << (2 * d));
                }
                if (d > 1) {
                    takes(x, 0, d, 3);
                    takes(x, 0, d, all(d));
                    refuses(x, 0, d, all(d + 1));
                }
            }
        }
    }

    /**
     * Promise 9: "IllegalArgumentException: they are not as its op says", with "k + d is below width
     * and is no bit of m." The bits 31, 32 and 63.
     */
    private static void swapMasksAtTheHighestBits() {
        BitShuffler x = oneSwap(64);
        takes(x, 0, 1, 1L << 31);
        takes(x, 0, 1, 1L << 32);
        refuses(x, 0, 1, 1L << 31 | 1L << 32);
        takes(x, 0, 1, 1L << 62);
        refuses(x, 0, 1, 1L << 63);
        takes(x, 0, 32, 1L << 31);
        refuses(x, 0, 32, 1L << 32);
        takes(x, 0, 32, 0xffffffffL);
        refuses(x, 0, 32, 0x1ffffffffL);
        takes(x, 0, 31, 1L << 32);
        refuses(x, 0, 31, 1L << 33);
        refuses(x, 0, 31, 1L << 1 | 1L << 32);
        takes(x, 0, 31, 1L << 31);
        refuses(x, 0, 31, 1L | 1L << 31);
        takes(x, 0, 63, 1);
        refuses(x, 0, 63, 2);
        refuses(x, 0, 63, 1L << 63);
        refuses(x, 0, 63, 1L | 1L << 63);
        BitShuffler y = oneSwap(32);
        takes(y, 0, 1, 1L << 30);
        refuses(y, 0, 1, 1L << 31);
        refuses(y, 0, 1, 1L << 32);
        takes(y, 0, 31, 1);
    }

    /** Promise 9: "Step i has another amount and mask." An empty mask is one that each op with a mask may have. */
    private static void emptyMasks() {
        takes(plain(8, 0), 1, 0, 0);
        takes(plain(8, 3), 0, 0, 0);
        takes(plain(8, 3), 1, 0, 0);
        takes(withSet(8, 0), 3, 0, 0);
        takes(oneSwap(8), 0, 1, 0);
        takes(oneSwap(8), 0, 7, 0);
    }

    private static void onlyAmount(BitShuffler x, int i) {
        for (long mask : new long[] {1, 2, 1L << 31, 1L << 32, Long.MIN_VALUE, -1L}) {
            refuses(x, i, 0, mask);
        }
        takes(x, i, 0, 0);
    }

    private static void onlyMask(BitShuffler x, int i) {
        for (int amount : new int[] {-1, 1, 7, 8, Integer.MIN_VALUE, Integer.MAX_VALUE}) {
            refuses(x, i, amount, 0);
            refuses(x, i, amount, 1);
        }
        takes(x, i, 0, 1);
    }

    /** Promise 9: "(what it does not name must be 0" Each op. */
    private static void fieldsThatMustBeZero() {
        onlyAmount(plain(8, 0), 0);
        onlyAmount(plain(8, 1), 0);
        onlyAmount(plain(64, 0), 0);
        onlyAmount(plain(64, 1), 0);
        onlyMask(plain(8, 0), 1);
        onlyMask(plain(8, 3), 0);
        onlyMask(plain(8, 3), 1);
        onlyMask(withSet(8, 0), 3);
        for (int n : new int[] {1, 8, 64}) {
            neither(plain(n, 0), 2, 3);
            neither(plain(n, 2), 0, 6);
        }
    }

    private static void neither(BitShuffler x, int i, int op) {
        Due.same("the op", x.step(i, false), op);
        onlyAmount(x, i);
        for (int amount : new int[] {-1, 1, 6, Integer.MIN_VALUE, Integer.MAX_VALUE}) {
            refuses(x, i, amount, 0);
            refuses(x, i, amount, 1);
        }
        takes(x, i, 0, 0);
    }

    /** Promise 9: "IllegalArgumentException: they are not as its op says" What is held stays as it is. */
    private static void refusedPatchesChangeNothing() {
        Class<IllegalArgumentException> wrong = IllegalArgumentException.class;
        Held.stays("patch of GATHER with an amount", wrong, x -> x.patch(0, 1, 4));
        Held.stays("patch of GATHER beyond the width", wrong, x -> x.patch(0, 0, 32));
        Held.stays("patch of SCATTER with an amount", wrong, x -> x.patch(1, -1, 1));
        Held.stays("patch of SCATTER beyond the width", wrong, x -> x.patch(4, 0, 1L << 32));
        Held.stays("patch of OR with a mask", wrong, x -> x.patch(2, 0, 1));
        Held.stays("patch of OR with an amount", wrong, x -> x.patch(2, 1, 0));
        Held.stays("patch of SET with an amount", wrong, x -> x.patch(9, 1, 2));
        Held.stays("patch of SET beyond the width", wrong, x -> x.patch(9, 0, -1L));
    }

    /** Promise 15: "The ticks of all steps." There are none, or none any more. */
    private static void ticksOfNothing() {
        BitShuffler x = new BitShuffler();
        Due.same("new", x.ticks(), 0);
        x.make(3);
        Due.same("gathers", x.ticks(), 7);
        x.width(8);
        Due.same("behind width", x.ticks(), 0);
        BitShuffler zeros = Look.of(64);
        zeros.make(0);
        Due.same("ZEROs", zeros.ticks(), 0);
    }

    /** "TICKS of a step: 1, but 6 for SWAP, 3 for GATHER and SCATTER." */
    private static void ticksOfEachOp() {
        Due.same("SHIFT, MASK, OR", plain(8, 0).ticks(), 3);
        Due.same("ROTATE, MASK, OR", plain(8, 1).ticks(), 3);
        Due.same("MOVE", plain(8, 2).ticks(), 1);
        Due.same("SWAP, MOVE", oneSwap(8).ticks(), 7);
        Due.same("GATHER, SCATTER, OR", plain(8, 3).ticks(), 7);
        Due.same("SET", withSet(1, 0).ticks(), 1);
        Due.same("GATHER, SCATTER, OR, SET", withSet(8, 3).ticks(), 8);
        BitShuffler x = oneSwap(8);
        x.patch(0, 1, 0);
        Due.same("a SWAP with an empty mask takes as long", x.ticks(), 7);
    }

    /** Promise 15: "The ticks of all steps." The longest programs. */
    private static void ticksOfTheLongest() {
        BitShuffler x = new BitShuffler();
        x.width(64);
        for (int k = 0; k < 64; k++) {
            x.target(k, 63 - k);
        }
        x.make(0);
        Due.same("192 steps of one tick", x.ticks(), 192);
        x.make(3);
        Due.same("64 times 3, 3 and 1", x.ticks(), 448);
        x.make(2);
        Due.same("six swaps and a move", x.ticks(), 37);
        x.make(1);
        Due.same("96 steps of one tick", x.ticks(), 96);
    }
}
