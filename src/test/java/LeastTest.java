/** Promise 19: least. */
public final class LeastTest {
    public static void main(String[] args) {
        least();
        wrongLeast();
        Due.end();
    }

    private static void takes(int due, int... sources) {
        BitShuffler x = Look.of(sources);
        Due.same("least() of " + Look.map(x, sources.length), x.least(), due);
    }

    private static void least() {
        takes(0, 0);
        takes(0, 0, 1);
        takes(1, 1, 0);
        takes(0, 0, 1, 2);
        takes(1, 1, 0, 2);
        takes(1, 0, 2, 1);
        takes(1, 2, 1, 0);
        takes(2, 1, 2, 0);
        takes(2, 2, 0, 1);
        takes(0, 0, 1, 2, 3);
        takes(1, 1, 0, 3, 2);
        takes(1, 2, 3, 0, 1);
        takes(1, 3, 1, 2, 0);
        // two swaps side by side but of two distances are two
        takes(2, 3, 2, 1, 0);
        takes(2, 3, 0, 1, 2);
        takes(2, 1, 2, 3, 0);
        BitShuffler x = Look.of(3, 0, 1, 2);
        x.make(0);
        String steps = Look.steps(x);
        x.least();
        Due.same("least: the map stays", Look.map(x, 4), "3 0 1 2");
        Due.same("least: the program stays", Look.steps(x), steps);
    }

    private static void wrongLeast() {
        for (int[] map : new int[][] {{0, 0}, {64}, {65}, {1, 65}, {64, 1, 2}, {0, 1, 2, 2},
                {0, 1, 2, 3, 4}, {1, 0, 2, 3, 4, 5}, {0, 1, 2, 3, 3}}) {
            BitShuffler x = Look.of(map);
            Due.unsupported("least() of " + Look.map(x, map.length), x::least);
        }
        BitShuffler x = new BitShuffler();
        Due.unsupported("least() at width 8", x::least);
        for (int n = 1; n <= 64; n++) {
            x.width(n);
            Due.same("least() at width " + n, Due.answer(() -> x.least()),
                    n <= 4 ? "0" : "throws.UnsupportedOperationException");
        }
    }
}
