/** The edges of promise 19, least. The remark of each test is the sentence that it is for. */
public final class EdgesOfLeastTest {
    public static void main(String[] args) {
        noSwaps();
        oneSwap();
        twoSwaps();
        neverMoreThanThereMustBe();
        noPermutation();
        widthAboveFour();
        nothingChanges();
        Due.end();
    }

    private static void takes(int due, int... sources) {
        BitShuffler x = Look.of(sources);
        Due.same("least() of " + Look.map(x, sources.length), x.least(), due);
    }

    /** "How many swaps at least (of any distances and masks, one behind the other) make the map." None. */
    private static void noSwaps() {
        takes(0, 0);
        takes(0, 0, 1);
        takes(0, 0, 1, 2);
        takes(0, 0, 1, 2, 3);
    }

    /** "How many swaps at least (of any distances and masks" One, with each distance and each mask that it may have. */
    private static void oneSwap() {
        takes(1, 1, 0);
        takes(1, 1, 0, 2);
        takes(1, 0, 2, 1);
        takes(1, 2, 1, 0);
        takes(1, 1, 0, 2, 3);
        takes(1, 0, 2, 1, 3);
        takes(1, 0, 1, 3, 2);
        takes(1, 1, 0, 3, 2);
        takes(1, 2, 1, 0, 3);
        takes(1, 0, 3, 2, 1);
        takes(1, 2, 3, 0, 1);
        takes(1, 3, 1, 2, 0);
    }

    /** "one behind the other" Two: turns of three, and pairs that lie at two distances. */
    private static void twoSwaps() {
        takes(2, 1, 2, 0);
        takes(2, 2, 0, 1);
        takes(2, 3, 2, 1, 0);
        takes(2, 1, 2, 3, 0);
        takes(2, 3, 0, 1, 2);
        takes(2, 1, 2, 0, 3);
        takes(2, 0, 2, 3, 1);
    }

    /** "How many swaps at least" Each permutation of 4 bits, against a search by all swaps that there are. */
    private static void neverMoreThanThereMustBe() {
        for (int n = 1; n <= 4; n++) {
            permute(new int[n], 0, 0);
        }
    }

    private static void permute(int[] sources, int at, int used) {
        if (at == sources.length) {
            int due = 0;
            while (!reached(sources.clone(), due)) {
                due++;
            }
            takes(due, sources);
            return;
        }
        for (int s = 0; s < sources.length; s++) {
            if ((used >> s & 1) == 0) {
                sources[at] = s;
                permute(sources, at + 1, used | 1 << s);
            }
        }
    }

    /** Whether so many swaps bring each place of the row its own number. */
    private static boolean reached(int[] row, int swaps) {
        if (swaps == 0) {
            for (int k = 0; k < row.length; k++) {
                if (row[k] != k) {
                    return false;
                }
            }
            return true;
        }
        for (int d = 1; d < row.length; d++) {
            for (int m = 1; m < 1 << row.length; m++) {
                if (m >> (row.length - d) == 0 && (m & m << d) == 0 && reached(swapped(row, d, m), swaps - 1)) {
                    return true;
                }
            }
        }
        return false;
    }

    private static int[] swapped(int[] row, int d, int m) {
        int[] result = row.clone();
        for (int k = 0; k + d < row.length; k++) {
            if ((m >> k & 1) == 1) {
                result[k] = row[k + d];
                result[k + d] = row[k];
            }
        }
        return result;
    }

    /** "UnsupportedOperationException: it is no permutation" */
    private static void noPermutation() {
        int[][] maps = {{64}, {65}, {0, 0}, {1, 1}, {64, 1}, {0, 65}, {64, 65}, {0, 1, 1}, {2, 1, 2}, {64, 1, 2}, {0, 1, 65},
                {0, 1, 2, 2}, {0, 1, 2, 0}, {3, 3, 3, 3}, {64, 1, 2, 3}, {0, 65, 2, 3}, {0, 1, 2, 64}, {0, 1, 2, 65}};
        for (int[] map : maps) {
            BitShuffler x = Look.of(map);
            x.make(3);
            String before = Held.of(x, map.length);
            Due.unsupported("least() of " + Look.map(x, map.length), x::least);
            Due.same("behind least() of " + Look.map(x, map.length), Held.of(x, map.length), before);
        }
    }

    /** "or the width is above 4." The last one that is taken, the first one that is refused, and all others. */
    private static void widthAboveFour() {
        BitShuffler x = new BitShuffler();
        Due.unsupported("least() at the width at first, 8", x::least);
        for (int n = 1; n <= 64; n++) {
            x.width(n);
            Due.same("least() at width " + n, Due.answer(() -> x.least()),
                    n <= 4 ? "0" : "throws.UnsupportedOperationException");
        }
        takes(2, 3, 2, 1, 0);
        BitShuffler five = Look.of(1, 0, 2, 3, 4);
        Due.unsupported("least() of one swap at width 5", five::least);
        five.width(4);
        Due.same("least() at width 4 behind it", five.least(), 0);
        Held.stays("least() at width 5 of no permutation", UnsupportedOperationException.class, y -> y.least());
    }

    /** "How many swaps at least" It is only told: the map and the program stay, and it is of the map alone. */
    private static void nothingChanges() {
        BitShuffler x = Look.of(3, 0, 1, 2);
        x.make(2);
        x.patch(0, 1, 1);
        String before = Held.of(x, 4);
        Due.same("least()", x.least(), 2);
        Due.same("least() again", x.least(), 2);
        Due.same("behind least()", Held.of(x, 4), before);
        x.target(0, 64);
        Due.unsupported("least() behind target", x::least);
    }
}
