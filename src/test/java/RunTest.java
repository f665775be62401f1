/** Promise 10: run, op by op. */
public final class RunTest {
    public static void main(String[] args) {
        nothing();
        shift();
        rotate();
        orAndSet();
        swap();
        gather();
        scatter();
        edges();
        Due.end();
    }

    private static void runs(BitShuffler x, long word, long due) {
        Due.same("run(" + word + ") of " + Look.steps(x), x.run(word), due);
    }

    private static void nothing() {
        BitShuffler x = new BitShuffler();
        runs(x, -1, 0);
        BitShuffler zeros = Look.of(64, 64);
        zeros.make(0);
        runs(zeros, -1, 0);
        x.make(0);
        runs(x, 0x12ab, 0xab);
        x.width(8);
        runs(x, 0xab, 0);
    }

    /** Shifts, and a mask that lets all bits through. */
    private static BitShuffler oneMove(int kind) {
        BitShuffler x = new BitShuffler();
        x.make(kind);
        return x;
    }

    private static void shift() {
        BitShuffler x = oneMove(0);
        x.patch(0, 3, 0);
        runs(x, 0b10110101, 0b10101000);
        x.patch(0, -3, 0);
        runs(x, 0b10110101, 0b00010110);
        runs(x, -1, 0b00011111);
        x.patch(0, 7, 0);
        runs(x, 0b10110101, 0b10000000);
        x.patch(0, -7, 0);
        runs(x, 0b10110101, 1);
        x.patch(0, 0, 0);
        runs(x, 0b10110101, 0b10110101);
        x.patch(1, 0, 0b11110000);
        runs(x, 0b10110101, 0b10110000);
    }

    private static void rotate() {
        BitShuffler x = oneMove(1);
        x.patch(0, 3, 0);
        runs(x, 0b10110101, 0b10101101);
        x.patch(0, 7, 0);
        runs(x, 0b10110101, 0b11011010);
        x.patch(0, 0, 0);
        runs(x, 0b10110101, 0b10110101);
        runs(x, -1, 255);
        x.patch(1, 0, 1);
        runs(x, 0b10110101, 1);
    }

    private static void orAndSet() {
        BitShuffler x = Look.of(1, 0, 65, 64);
        x.make(0);
        runs(x, 0, 4);
        runs(x, 1, 6);
        runs(x, -1, 7);
        x.patch(6, 0, 9);
        runs(x, 0, 9);
        x.patch(1, 0, 15);
        x.patch(4, 0, 15);
        runs(x, 6, 9 | 3 | 12);
        // T comes new from A each time, and R keeps what it has
        x.patch(1, 0, 0);
        x.patch(6, 0, 0);
        runs(x, 6, 12);
    }

    private static void swap() {
        BitShuffler x = Look.of(3, 0, 1, 2);
        x.make(2);
        Due.same("steps", Look.steps(x), "5:2:2 5:1:5 6:0:0");
        runs(x, 1, 2);
        runs(x, 8, 1);
        x.patch(0, 3, 1);
        x.patch(1, 1, 0);
        runs(x, 0b0111, 0b1110);
        x.patch(1, 1, 2);
        runs(x, 0b0011, 0b1100);
        runs(x, 0xf5, 0b1010);
        x.patch(0, 2, 3);
        x.patch(1, 2, 3);
        runs(x, 0b0110, 0b0110);
    }

    private static void gather() {
        BitShuffler x = oneMove(3);
        x.patch(0, 0, 0b10101010);
        runs(x, 0b10001000, 0b1010);
        runs(x, 0b01010101, 0);
        runs(x, 0b00000010, 1);
        x.patch(0, 0, 0b10000001);
        runs(x, -1, 3);
        x.patch(0, 0, 0);
        runs(x, -1, 0);
    }

    private static void scatter() {
        BitShuffler x = oneMove(3);
        x.patch(1, 0, 0b10101010);
        runs(x, 0b00000101, 0b00100010);
        runs(x, 0b11110000, 0);
        runs(x, 0b11111000, 0b10000000);
        x.patch(0, 0, 0b11110000);
        runs(x, 0b11010000, 0b10100010);
        x.patch(1, 0, 0b11111110);
        runs(x, -1, 0b00011110);
        x.patch(1, 0, 0);
        runs(x, -1, 0);
    }

    private static void edges() {
        BitShuffler x = new BitShuffler();
        x.width(64);
        for (int kind = 0; kind < 4; kind++) {
            x.make(kind);
            runs(x, 0x8123456789abcdefL, 0x8123456789abcdefL);
            runs(x, -1, -1);
        }
        x.make(0);
        x.patch(0, 63, 0);
        runs(x, 0x8123456789abcdefL, Long.MIN_VALUE);
        x.patch(0, -63, 0);
        runs(x, Long.MIN_VALUE, 1);
        x.make(1);
        x.patch(0, 63, 0);
        runs(x, 0x8000000000000001L, 0xc000000000000000L);
        x.patch(0, 4, 0);
        runs(x, 0x8123456789abcdefL, 0x123456789abcdef8L);
        x.target(0, 63);
        x.target(63, 0);
        x.make(2);
        runs(x, 1, Long.MIN_VALUE);
        runs(x, Long.MIN_VALUE, 1);
        x.width(1);
        for (int kind = 0; kind < 4; kind++) {
            x.make(kind);
            runs(x, 3, 1);
            runs(x, 2, 0);
        }
        x.width(63);
        x.make(1);
        x.patch(0, 62, 0);
        runs(x, -1, Long.MAX_VALUE);
        runs(x, 1, 1L << 62);
        runs(x, 1L << 63, 0);
        runs(x, 2, 1);
    }
}
