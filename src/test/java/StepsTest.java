/** Promises 6 to 9 and 15: size, step, mask, patch, ticks. */
public final class StepsTest {
    private static final int[] WRONG_INDEXES = {-1, Integer.MIN_VALUE, Integer.MAX_VALUE};

    public static void main(String[] args) {
        size();
        reading();
        ticks();
        patchShift();
        patchRotate();
        patchSwap();
        patchMasks();
        patchWithoutFields();
        patchWithoutStep();
        patchWide();
        Due.end();
    }

    private static void size() {
        BitShuffler x = Look.of(3, 65, 1, 2);
        Due.same("size() at first", x.size(), 0);
        Due.same("make(0)", x.make(0), 7);
        Due.same("size()", x.size(), 7);
        x.target(1, 64);
        Due.same("size() behind target", x.size(), 7);
        x.make(3);
        Due.same("size() of gathers", x.size(), 6);
        x.width(4);
        Due.same("size() behind width", x.size(), 0);
    }

    private static void reading() {
        BitShuffler x = Look.of(3, 65, 1, 2);
        x.make(0);
        Due.same("step(0, false)", x.step(0, false), 0);
        Due.same("step(0, true)", x.step(0, true), -3);
        Due.same("mask(0)", x.mask(0), 0);
        Due.same("step(1, false)", x.step(1, false), 2);
        Due.same("step(1, true)", x.step(1, true), 0);
        Due.same("mask(1)", x.mask(1), 1);
        Due.same("step(2, false)", x.step(2, false), 3);
        Due.same("step(6, false)", x.step(6, false), 4);
        Due.same("mask(6)", x.mask(6), 2);
        noStep(x, 7);
        x.width(4);
        noStep(x, 0);
    }

    private static void noStep(BitShuffler x, int end) {
        for (int i : new int[] {end, end + 1, WRONG_INDEXES[0], WRONG_INDEXES[1], WRONG_INDEXES[2]}) {
            Due.noIndex("step(" + i + ", false)", () -> x.step(i, false));
            Due.noIndex("step(" + i + ", true)", () -> x.step(i, true));
            Due.noIndex("mask(" + i + ")", () -> x.mask(i));
            Due.noIndex("patch(" + i + ", 0, 0)", () -> x.patch(i, 0, 0));
            Due.noIndex("patch(" + i + ", 99, -1)", () -> x.patch(i, 99, -1));
        }
    }

    private static void ticks() {
        BitShuffler x = Look.of(1, 0, 3, 2);
        Due.same("ticks() of nothing", x.ticks(), 0);
        x.make(0);
        Due.same("ticks() of shifts", x.ticks(), 6);
        x.make(1);
        Due.same("ticks() of rotations", x.ticks(), 6);
        x.make(2);
        Due.same("ticks() of a swap and a move", x.ticks(), 7);
        x.make(3);
        Due.same("ticks() of gathers", x.ticks(), 14);
        x.target(0, 65);
        x.make(3);
        Due.same("ticks() of gathers and a set", x.ticks(), 15);
        x.patch(0, 0, 0);
        Due.same("ticks() behind patch", x.ticks(), 15);
        x.width(4);
        Due.same("ticks() behind width", x.ticks(), 0);
    }

    private static void takes(BitShuffler x, int i, int amount, long mask) {
        int op = x.step(i, false);
        String what = "patch(" + i + ", " + amount + ", " + mask + ") of op " + op;
        Due.same(what, Due.answer(() -> x.patch(i, amount, mask)), "0");
        Due.same(what + ": op", x.step(i, false), op);
        Due.same(what + ": amount", x.step(i, true), amount);
        Due.same(what + ": mask", x.mask(i), mask);
    }

    private static void refuses(BitShuffler x, int i, int amount, long mask) {
        String before = Look.steps(x);
        Due.refused("patch(" + i + ", " + amount + ", " + mask + ") of op " + x.step(i, false),
                () -> x.patch(i, amount, mask));
        Due.same("behind a wrong patch", Look.steps(x), before);
    }

    private static void patchShift() {
        BitShuffler x = Look.of(1, 2, 3, 4, 0);
        x.make(0);
        for (int d = -4; d <= 4; d++) {
            takes(x, 0, d, 0);
        }
        Due.same("the others stay", Look.steps(x), "0:4:0 2:0:f 3:0:0 0:4:0 2:0:10 3:0:0");
        BitShuffler y = new BitShuffler();
        y.width(5);
        y.make(0);
        for (int d : new int[] {-5, 5, -6, 6, 64, -64, Integer.MIN_VALUE, Integer.MAX_VALUE}) {
            refuses(y, 0, d, 0);
        }
        refuses(y, 0, 1, 1);
        refuses(y, 0, 0, -1);
        refuses(y, 0, 0, 32);
    }

    private static void patchRotate() {
        BitShuffler x = Look.of(1, 2, 3, 4, 0);
        x.make(1);
        for (int d = 0; d <= 4; d++) {
            takes(x, 0, d, 0);
        }
        for (int d : new int[] {-1, 5, -4, 64, Integer.MIN_VALUE, Integer.MAX_VALUE}) {
            refuses(x, 0, d, 0);
        }
        refuses(x, 0, 1, 1);
        refuses(x, 0, 1, 32);
    }

    private static BitShuffler oneSwap() {
        BitShuffler x = Look.of(1, 0, 2, 3, 4, 5, 6, 7);
        x.make(2);
        Due.same("one swap", Look.steps(x), "5:1:1 6:0:0");
        return x;
    }

    private static void patchSwap() {
        for (int d = 1; d < 8; d++) {
            for (int m = 0; m < 256; m++) {
                BitShuffler x = oneSwap();
                boolean fits = true;
                for (int k = 0; k < 8; k++) {
                    if ((m >> k & 1) != 0 && (k + d >= 8 || (m >> (k + d) & 1) != 0)) {
                        fits = false;
                    }
                }
                if (fits) {
                    takes(x, 0, d, m);
                } else {
                    refuses(x, 0, d, m);
                }
            }
        }
        BitShuffler x = oneSwap();
        for (int d : new int[] {0, 8, 9, -1, 64, 65, Integer.MIN_VALUE, Integer.MAX_VALUE}) {
            refuses(x, 0, d, 0);
            refuses(x, 0, d, 1);
        }
        refuses(x, 0, 1, 256);
        refuses(x, 0, 1, Long.MIN_VALUE);
    }

    private static void patchMasks() {
        masksAt(1, 0, "0:1:0 2:0:1e 3:0:0 4:0:1");
        masksAt(3, 0, "0:1:0 2:0:1e 3:0:0 4:0:1");
        masksAt(0, 3, "7:0:f 8:0:1e 3:0:0 4:0:1");
        masksAt(1, 3, "7:0:f 8:0:1e 3:0:0 4:0:1");
        masksAt(3, 3, "7:0:f 8:0:1e 3:0:0 4:0:1");
    }

    private static void masksAt(int i, int kind, String steps) {
        BitShuffler x = Look.of(65, 0, 1, 2, 3);
        x.make(kind);
        Due.same("steps", Look.steps(x), steps);
        for (long m : new long[] {0, 1, 16, 31, 21}) {
            takes(x, i, 0, m);
        }
        for (long m : new long[] {32, 63, -1, Long.MIN_VALUE, 1L << 32}) {
            refuses(x, i, 0, m);
        }
        refuses(x, i, 1, 1);
        refuses(x, i, -1, 0);
        refuses(x, i, 1, 32);
    }

    private static void patchWithoutFields() {
        withoutFieldsAt(0, 2, 3);
        withoutFieldsAt(2, 1, 6);
        withoutFieldsAt(3, 2, 3);
    }

    private static void withoutFieldsAt(int kind, int i, int op) {
        BitShuffler x = Look.of(1, 0);
        x.make(kind);
        Due.same("op", x.step(i, false), op);
        takes(x, i, 0, 0);
        refuses(x, i, 1, 0);
        refuses(x, i, -1, 0);
        refuses(x, i, 0, 1);
        refuses(x, i, 0, -1);
    }

    private static void patchWithoutStep() {
        BitShuffler x = Look.of(1, 0);
        noStep(x, 0);
        x.make(2);
        noStep(x, 2);
        Due.same("behind wrong patches", Look.steps(x), "5:1:1 6:0:0");
    }

    private static void patchWide() {
        BitShuffler x = new BitShuffler();
        x.width(64);
        x.target(0, 1);
        x.target(1, 0);
        x.make(2);
        takes(x, 0, 63, 1);
        refuses(x, 0, 63, 2);
        refuses(x, 0, 64, 0);
        takes(x, 0, 32, 0xffffffffL);
        refuses(x, 0, 32, 0x100000000L);
        refuses(x, 0, 32, -1L);
        takes(x, 0, 1, 0x5555555555555555L);
        refuses(x, 0, 1, 0xaaaaaaaaaaaaaaaaL);
        takes(x, 0, 1, 0x4000000000000000L);
        refuses(x, 0, 1, Long.MIN_VALUE);
        x.make(0);
        takes(x, 0, 63, 0);
        takes(x, 0, -63, 0);
        refuses(x, 0, 64, 0);
        refuses(x, 0, -64, 0);
        takes(x, 1, 0, -1L);
        x.make(3);
        takes(x, 0, 0, -1L);
        takes(x, 1, 0, Long.MIN_VALUE);
        x.width(1);
        x.make(0);
        takes(x, 0, 0, 0);
        refuses(x, 0, 1, 0);
        refuses(x, 0, -1, 0);
        takes(x, 1, 0, 1);
        refuses(x, 1, 0, 2);
    }
}
