/** Promises 12 to 14: check, origins, constant. */
public final class SymbolsTest {
    public static void main(String[] args) {
        nothing();
        right();
        sets();
        ones();
        ops();
        nothingStaysInT();
        eachCallTracesAnew();
        checkTellsTheLowest();
        wrongBits();
        wide();
        Due.end();
    }

    private static void traced(BitShuffler x, int width, String due) {
        Due.same("symbols of " + Look.steps(x), Look.symbols(x, width), due);
    }

    private static void nothing() {
        BitShuffler x = new BitShuffler();
        Due.same("check() without steps", x.check(), 1);
        traced(x, 8, "0 0 0 0 0 0 0 0");
        x.target(0, 64);
        Due.same("check() with ZERO right", x.check(), 2);
        Look.targets(x, 64, 64, 64, 64, 64, 64, 64, 64);
        Due.same("check() of ZEROs", x.check(), 0);
        x.target(7, 65);
        Due.same("check() of a ONE that is missed", x.check(), 8);
    }

    private static void right() {
        BitShuffler x = Look.of(7, 1, 2, 65, 64, 2, 6, 0);
        for (int kind : new int[] {0, 1, 3}) {
            x.make(kind);
            Due.same("check() of kind " + kind, x.check(), 0);
            traced(x, 8, "80 2 4 0+ 0 4 40 1");
        }
        BitShuffler y = Look.of(2, 0, 3, 1);
        y.make(2);
        Due.same("check() of swaps", y.check(), 0);
        traced(y, 4, "4 1 8 2");
        y.target(2, 2);
        Due.same("check() behind target", y.check(), 3);
        traced(y, 4, "4 1 8 2");
        y.target(2, 3);
        y.invert();
        Due.same("check() behind invert", y.check(), 1);
    }

    private static void sets() {
        BitShuffler x = Look.of(1, 0, 2, 3);
        x.make(0);
        Due.same("steps", Look.steps(x), "0:-1:0 2:0:1 3:0:0 0:0:0 2:0:c 3:0:0 0:1:0 2:0:2 3:0:0");
        x.patch(1, 0, 15);
        x.patch(7, 0, 15);
        traced(x, 4, "2 5 e c");
        Due.same("more than the source is not right", x.check(), 2);
        x.patch(4, 0, 0);
        traced(x, 4, "2 5 a 4");
        x.patch(1, 0, 0);
        traced(x, 4, "0 1 2 4");
        Due.same("an empty set is not right", x.check(), 1);
    }

    private static void ones() {
        BitShuffler x = Look.of(65, 1, 64, 3);
        x.make(0);
        Due.same("steps", Look.steps(x), "0:0:0 2:0:a 3:0:0 4:0:1");
        traced(x, 4, "0+ 2 0 8");
        x.patch(1, 0, 11);
        traced(x, 4, "1+ 2 0 8");
        Due.same("ONE is right with any set", x.check(), 0);
        x.patch(3, 0, 3);
        traced(x, 4, "1+ 2+ 0 8");
        Due.same("or with 1 is not right for a source", x.check(), 2);
        x.patch(3, 0, 5);
        Due.same("or with 1 is not right for ZERO", x.check(), 3);
        x.patch(3, 0, 0);
        Due.same("ONE is not right without 1", x.check(), 1);
        x.patch(3, 0, 1);
        x.patch(1, 0, 15);
        Due.same("ZERO is not right with a set", x.check(), 3);
        Due.same("constant(0)", x.constant(0) ? 1 : 0, 1);
        Due.same("constant(1)", x.constant(1) ? 1 : 0, 0);
    }

    private static void ops() {
        BitShuffler x = Look.of(0, 1, 2, 3, 4);
        x.make(0);
        x.patch(0, 2, 0);
        traced(x, 5, "0 0 1 2 4");
        x.patch(0, -2, 0);
        traced(x, 5, "4 8 10 0 0");
        x.make(1);
        x.patch(0, 2, 0);
        traced(x, 5, "8 10 1 2 4");
        x.patch(1, 0, 9);
        traced(x, 5, "8 0 0 2 0");
        x.make(3);
        x.patch(0, 0, 26);
        traced(x, 5, "2 8 10 0 0");
        x.patch(1, 0, 21);
        traced(x, 5, "2 0 8 0 10");
        x.patch(1, 0, 30);
        traced(x, 5, "0 2 8 10 0");
        x.patch(0, 0, 0);
        traced(x, 5, "0 0 0 0 0");
        BitShuffler y = Look.of(3, 0, 1, 2);
        y.make(2);
        y.patch(0, 3, 1);
        y.patch(1, 1, 2);
        traced(y, 4, "8 4 2 1");
        y.patch(1, 1, 5);
        traced(y, 4, "2 8 1 4");
    }

    private static void nothingStaysInT() {
        BitShuffler x = Look.of(2, 1, 0);
        x.make(3);
        x.patch(0, 0, 6);
        x.patch(1, 0, 7);
        x.patch(3, 0, 1);
        x.patch(4, 0, 6);
        x.patch(6, 0, 0);
        traced(x, 3, "2 5 0");
        Due.same("run(4)", x.run(4), 2);
    }

    private static void eachCallTracesAnew() {
        BitShuffler x = Look.of(65, 1, 1);
        Due.same("constant(0) without steps", x.constant(0) ? 1 : 0, 0);
        x.make(0);
        Due.same("constant(0) behind make", x.constant(0) ? 1 : 0, 1);
        x.patch(x.size() - 1, 0, 2);
        Due.same("constant(0) behind patch", x.constant(0) ? 1 : 0, 0);
        Due.same("constant(1) behind patch", x.constant(1) ? 1 : 0, 1);
        x.patch(1, 0, 0);
        Due.same("origins(1) behind patch", x.origins(1), 0);
        x.width(3);
        Due.same("constant(1) behind width", x.constant(1) ? 1 : 0, 0);
        x.make(0);
        Due.same("origins(1) behind make", x.origins(1), 2);
        x.patch(1, 0, 5);
        Due.same("check() behind patch", x.check(), 2);
        x.width(3);
        Due.same("check() behind width", x.check(), 1);
    }

    private static void checkTellsTheLowest() {
        for (int bit = 0; bit < 8; bit++) {
            BitShuffler x = new BitShuffler();
            x.make(0);
            x.patch(1, 0, 255 & ~(1 << bit));
            Due.same("check() with bit " + bit + " left out", x.check(), bit + 1);
            x.patch(1, 0, (1 << bit) - 1);
            Due.same("check() with the bits from " + bit + " on left out", x.check(), bit + 1);
        }
    }

    private static void wrongBits() {
        BitShuffler x = Look.of(2, 1, 0);
        x.make(0);
        for (int bit : new int[] {-1, 3, 4, 63, 64, 65, Integer.MIN_VALUE, Integer.MAX_VALUE}) {
            Due.refused("origins(" + bit + ")", () -> x.origins(bit));
            Due.refused("constant(" + bit + ")", () -> x.constant(bit));
        }
        Due.same("origins(2)", x.origins(2), 1);
        BitShuffler none = new BitShuffler();
        Due.refused("origins(8) without steps", () -> none.origins(8));
        Due.refused("constant(8) without steps", () -> none.constant(8));
    }

    private static void wide() {
        BitShuffler x = new BitShuffler();
        x.width(64);
        for (int k = 0; k < 64; k++) {
            x.target(k, (k * 11 + 7) % 64);
        }
        for (int kind = 0; kind < 4; kind++) {
            x.make(kind);
            Due.same("check() of kind " + kind, x.check(), 0);
            for (int k = 0; k < 64; k++) {
                Due.same("origins(" + k + ") of kind " + kind, x.origins(k), 1L << ((k * 11 + 7) % 64));
            }
        }
        x.target(63, 65);
        Due.same("check() at bit 63", x.check(), 64);
        x.make(1);
        Due.same("check()", x.check(), 0);
        Due.same("constant(63)", x.constant(63) ? 1 : 0, 1);
        Due.same("constant(62)", x.constant(62) ? 1 : 0, 0);
    }
}
