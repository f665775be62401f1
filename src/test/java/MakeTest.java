import java.util.Arrays;

/** Promise 5: the programs of the four kinds. */
public final class MakeTest {
    public static void main(String[] args) {
        shifts();
        rotations();
        swaps();
        swapsOfEveryPermutation();
        gathers();
        constantsAlone();
        wrongKinds();
        mapsThatAreNoSwaps();
        oneBehindTheOther();
        largest();
        Due.end();
    }

    private static void made(String due, int kind, int... sources) {
        BitShuffler x = Look.of(sources);
        Due.same("kind " + kind + " of " + Look.map(x, sources.length), Look.made(x, kind), due);
    }

    private static void shifts() {
        made("0:0:0 2:0:1 3:0:0", 0, 0);
        made("0:0:0 2:0:f 3:0:0", 0, 0, 1, 2, 3);
        made("0:-3:0 2:0:1 3:0:0 0:1:0 2:0:e 3:0:0", 0, 3, 0, 1, 2);
        made("0:-2:0 2:0:1 3:0:0 0:0:0 2:0:6 3:0:0 0:2:0 2:0:8 3:0:0", 0, 2, 1, 2, 1);
        made("0:-2:0 2:0:1 3:0:0 0:1:0 2:0:10 3:0:0 4:0:a", 0, 2, 65, 64, 65, 3);
    }

    private static void rotations() {
        made("1:0:0 2:0:1 3:0:0", 1, 0);
        made("1:1:0 2:0:f 3:0:0", 1, 3, 0, 1, 2);
        made("1:0:0 2:0:6 3:0:0 1:2:0 2:0:9 3:0:0", 1, 2, 1, 2, 1);
        made("1:1:0 2:0:10 3:0:0 1:3:0 2:0:1 3:0:0 4:0:a", 1, 2, 65, 64, 65, 3);
        made("1:1:0 2:0:1 3:0:0 1:2:0 2:0:6 3:0:0", 1, 2, 2, 0);
    }

    private static void swaps() {
        made("6:0:0", 2, 0);
        made("6:0:0", 2, 0, 1);
        made("5:1:1 6:0:0", 2, 1, 0);
        made("6:0:0", 2, 0, 1, 2, 3);
        made("5:2:2 5:1:5 6:0:0", 2, 3, 0, 1, 2);
        // place 1 comes through the lower half, so its source 3 goes there: the first swap, not the last
        made("5:2:2 6:0:0", 2, 0, 3, 2, 1);
        made("5:2:1 6:0:0", 2, 2, 1, 0, 3);
        made("5:2:3 6:0:0", 2, 2, 3, 0, 1);
        made("5:1:5 6:0:0", 2, 1, 0, 3, 2);
        // 0 wants 1, so source 3 and place 1 are upper, and place 3 lower; it wants 2, so 0 goes up
        made("5:2:1 5:1:1 5:2:2 6:0:0", 2, 1, 3, 0, 2);
        made("5:4:f 5:2:33 5:1:55 6:0:0", 2, 7, 6, 5, 4, 3, 2, 1, 0);
        made("6:0:0", 2, 0, 1, 2, 3, 4, 5, 6, 7);
    }

    private static void swapsOfEveryPermutation() {
        for (int n = 1; n <= 8; n *= 2) {
            permute(new int[n], 0, 0);
        }
    }

    private static void permute(int[] sources, int at, int used) {
        int n = sources.length;
        if (at == n) {
            BitShuffler x = Look.of(sources);
            int size = x.make(2);
            String what = "swaps of " + Look.map(x, n);
            Due.same(what + ": check()", x.check(), 0);
            Due.same(what + ": last op", x.step(size - 1, false), 6);
            Due.yes(what + ": few enough", size <= 2 * Integer.numberOfTrailingZeros(n) + (n == 1 ? 1 : 0));
            for (int i = 0; i < size - 1; i++) {
                Due.yes(what + ": a swap with a bit", x.step(i, false) == 5 && x.mask(i) != 0);
            }
            return;
        }
        for (int s = 0; s < n; s++) {
            if ((used >> s & 1) == 0) {
                sources[at] = s;
                permute(sources, at + 1, used | 1 << s);
            }
        }
    }

    private static void gathers() {
        made("7:0:1 8:0:1 3:0:0", 3, 0);
        made("7:0:f 8:0:f 3:0:0", 3, 0, 1, 2, 3);
        made("7:0:8 8:0:1 3:0:0 7:0:7 8:0:e 3:0:0", 3, 3, 0, 1, 2);
        // the same source twice needs two groups; the first group that fits is taken
        made("7:0:6 8:0:5 3:0:0 7:0:2 8:0:2 3:0:0", 3, 1, 1, 2);
        made("7:0:18 8:0:9 3:0:0 7:0:6 8:0:12 3:0:0 7:0:1 8:0:4 3:0:0", 3, 3, 1, 0, 4, 2);
        made("7:0:c 8:0:11 3:0:0 4:0:a", 3, 2, 65, 64, 65, 3);
    }

    private static void constantsAlone() {
        for (int kind : new int[] {0, 1, 3}) {
            made("", kind, 64, 64, 64);
            made("4:0:7", kind, 65, 65, 65);
            made("4:0:4", kind, 64, 64, 65);
        }
    }

    private static void wrongKinds() {
        BitShuffler x = Look.of(1, 0, 65);
        x.make(0);
        String steps = Look.steps(x);
        for (int kind : new int[] {-1, 4, 5, Integer.MIN_VALUE, Integer.MAX_VALUE}) {
            Due.refused("make(" + kind + ")", () -> x.make(kind));
            Due.same("behind make(" + kind + ")", Look.steps(x), steps);
        }
    }

    private static void mapsThatAreNoSwaps() {
        for (int[] map : new int[][] {{0, 0}, {64, 1}, {1, 65}, {64}, {65}, {0, 1, 2, 2},
                {0, 1, 2}, {2, 1, 0}, {0, 1, 2, 3, 4}, {5, 4, 3, 2, 1, 0}}) {
            BitShuffler x = Look.of(map);
            String before = Look.map(x, map.length);
            x.make(3);
            String steps = Look.steps(x);
            Due.unsupported("make(2) of " + before, () -> x.make(2));
            Due.same("behind make(2) of " + before, Look.steps(x), steps);
            Due.same("the map behind make(2) of " + before, Look.map(x, map.length), before);
        }
        for (int n = 1; n <= 64; n++) {
            BitShuffler x = new BitShuffler();
            x.width(n);
            String due = Integer.bitCount(n) == 1 ? "6:0:0" : "throws.UnsupportedOperationException";
            Due.same("make(2) of width " + n, Look.made(x, 2), due);
        }
    }

    private static void oneBehindTheOther() {
        int[][] maps = {{3, 2, 1, 0}, {1, 3, 0, 2}, {0, 1, 2, 3}, {2, 65, 64, 2}, {2, 3, 0, 1}, {64, 64, 64, 64},
                {3, 0, 1, 2}};
        BitShuffler x = new BitShuffler();
        x.width(4);
        for (int[] map : maps) {
            Look.targets(x, map);
            for (int kind = 0; kind < 4; kind++) {
                String what = "kind " + kind + " of " + Arrays.toString(map) + " behind others";
                Due.same(what, Look.made(x, kind), Look.made(Look.of(map), kind));
            }
        }
    }

    private static void largest() {
        BitShuffler x = new BitShuffler();
        x.width(64);
        for (int k = 0; k < 64; k++) {
            x.target(k, 63 - k);
        }
        Due.same("shifts of 64 turned round", x.make(0), 192);
        Due.same("check()", x.check(), 0);
        Due.same("gathers of 64 turned round", x.make(3), 192);
        Due.same("check()", x.check(), 0);
        Due.same("rotations of 64 turned round", x.make(1), 96);
        Due.same("check()", x.check(), 0);
        Due.same("swaps of 64 turned round", Look.made(x, 2), "5:32:ffffffff 5:16:ffff0000ffff 5:8:ff00ff00ff00ff"
                + " 5:4:f0f0f0f0f0f0f0f 5:2:3333333333333333 5:1:5555555555555555 6:0:0");
        Due.same("check()", x.check(), 0);
        x.target(0, 65);
        Due.same("shifts with a SET", x.make(0), 190);
        Due.same("check()", x.check(), 0);
    }
}
