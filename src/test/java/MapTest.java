/** Promises 1 to 4, 11 and 16 to 18: the map, what it makes of a word, and kept maps. */
public final class MapTest {
    private static final String AT_FIRST = "0 1 2 3 4 5 6 7";

    public static void main(String[] args) {
        newObject();
        width();
        wrongWidth();
        target();
        wrongTarget();
        source();
        direct();
        keep();
        join();
        wrongJoin();
        invert();
        wrongInvert();
        Due.end();
    }

    private static void newObject() {
        BitShuffler x = new BitShuffler();
        Due.same("new: map", Look.map(x, 8), AT_FIRST);
        Due.refused("new: source(8)", () -> x.source(8));
        Due.same("new: size()", x.size(), 0);
        Due.same("new: ticks()", x.ticks(), 0);
        Due.noIndex("new: step(0, false)", () -> x.step(0, false));
        Due.same("new: run(-1)", x.run(-1), 0);
        Due.same("new: direct(-1)", x.direct(-1), 255);
        Due.same("new: check()", x.check(), 1);
        Due.refused("new: join(0)", () -> x.join(0));
        Due.same("new: keep()", x.keep(), 0);
    }

    private static void width() {
        for (int n = 1; n <= 64; n++) {
            BitShuffler x = new BitShuffler();
            x.width(n);
            for (int k = 0; k < n; k++) {
                Due.same("width " + n + ": source(" + k + ")", x.source(k), k);
            }
            int beyond = n;
            Due.refused("width " + n + ": source(" + n + ")", () -> x.source(beyond));
            Due.same("width " + n + ": direct(-1)", x.direct(-1), n == 64 ? -1L : (1L << n) - 1);
            Due.same("width " + n + ": size()", x.size(), 0);
        }
        BitShuffler same = Look.of(1, 0, 64, 65, 3, 3, 7, 6);
        same.make(0);
        same.keep();
        same.width(8);
        Due.same("the same width: map", Look.map(same, 8), AT_FIRST);
        Due.same("the same width: size()", same.size(), 0);
        Due.same("the same width: run(-1)", same.run(-1), 0);
        Due.same("the same width: keep()", same.keep(), 1);
        same.join(0);
        Due.same("the same width: kept maps stay", Look.map(same, 8), "1 0 64 65 3 3 7 6");
        same.width(64);
        same.width(8);
        Due.same("up and down: map", Look.map(same, 8), AT_FIRST);
        same.join(0);
        Due.same("up and down: kept maps stay", Look.map(same, 8), "1 0 64 65 3 3 7 6");
    }

    private static void wrongWidth() {
        BitShuffler x = Look.of(2, 0, 65);
        x.make(0);
        String steps = Look.steps(x);
        for (int n : new int[] {0, 65, -1, 66, 128, -64, Integer.MIN_VALUE, Integer.MAX_VALUE}) {
            Due.refused("width(" + n + ")", () -> x.width(n));
        }
        Due.same("behind wrong widths: map", Look.map(x, 3), "2 0 65");
        Due.same("behind wrong widths: steps", Look.steps(x), steps);
    }

    private static void target() {
        BitShuffler x = new BitShuffler();
        x.make(0);
        x.target(0, 7);
        x.target(7, BitShuffler.ZERO);
        x.target(3, BitShuffler.ONE);
        x.target(4, 0);
        Due.same("target: map", Look.map(x, 8), "7 1 2 65 0 5 6 64");
        x.target(3, 3);
        x.target(7, 7);
        Due.same("target: back from ZERO and ONE", Look.map(x, 8), "7 1 2 3 0 5 6 7");
        Due.same("target: the program stays", Look.steps(x), "0:0:0 2:0:ff 3:0:0");
        x.width(64);
        x.target(63, 0);
        x.target(0, 63);
        x.target(5, 64);
        Due.same("target: source 63", x.source(0), 63);
        Due.same("target: bit 63", x.source(63), 0);
        Due.same("target: 64 is ZERO at width 64", x.direct(-1), ~(1L << 5));
    }

    private static void wrongTarget() {
        BitShuffler x = Look.of(4, 3, 2, 1, 0);
        for (int bit : new int[] {-1, 5, 8, 63, 64, 65, Integer.MIN_VALUE, Integer.MAX_VALUE}) {
            Due.refused("target(" + bit + ", 0)", () -> x.target(bit, 0));
        }
        for (int source : new int[] {-1, 5, 8, 63, 66, 67, 128, Integer.MIN_VALUE, Integer.MAX_VALUE}) {
            Due.refused("target(0, " + source + ")", () -> x.target(0, source));
        }
        Due.refused("target(5, 66)", () -> x.target(5, 66));
        Due.same("behind wrong targets: map", Look.map(x, 5), "4 3 2 1 0");
    }

    private static void source() {
        BitShuffler x = Look.of(2, 64, 65);
        Due.same("source(0)", x.source(0), 2);
        Due.same("source(1)", x.source(1), 64);
        Due.same("source(2)", x.source(2), 65);
        for (int bit : new int[] {-1, 3, 4, 64, 65, Integer.MIN_VALUE, Integer.MAX_VALUE}) {
            Due.refused("source(" + bit + ")", () -> x.source(bit));
        }
    }

    private static void direct() {
        BitShuffler x = Look.of(7, 1, 2, 65, 64, 2, 6, 0);
        Due.same("direct(5)", x.direct(5), 0b10101100);
        Due.same("direct(0)", x.direct(0), 8);
        Due.same("direct(-1)", x.direct(-1), 0b11101111);
        Due.same("direct: bits beyond the width do not matter", x.direct(5 | ~255L), 0b10101100);
        x.make(0);
        x.target(3, 64);
        Due.same("direct is of the map, not of the program", x.direct(0), 0);
        x.width(64);
        Due.same("direct at width 64", x.direct(0x8000000000000001L), 0x8000000000000001L);
        x.width(1);
        Due.same("direct at width 1", x.direct(-2), 0);
        x.target(0, 65);
        Due.same("direct of ONE at width 1", x.direct(0), 1);
    }

    private static void keep() {
        BitShuffler x = Look.of(1, 0);
        for (int k = 0; k < 8; k++) {
            Due.same("keep", x.keep(), k);
        }
        Due.noState("a ninth keep()", x::keep);
        x.width(3);
        Due.noState("a ninth keep() behind width", x::keep);
        Due.same("keep changes no map", Look.map(x, 3), "0 1 2");
        x.width(2);
        x.join(7);
        Due.same("the eighth kept map", Look.map(x, 2), "1 0");
        BitShuffler y = Look.of(1, 2, 0);
        y.make(0);
        String steps = Look.steps(y);
        y.keep();
        Due.same("keep: the map stays", Look.map(y, 3), "1 2 0");
        Due.same("keep: the program stays", Look.steps(y), steps);
        y.target(0, 64);
        y.width(3);
        y.join(0);
        Due.same("a kept map is a copy", Look.map(y, 3), "1 2 0");
        y.target(1, 65);
        y.width(3);
        y.join(0);
        Due.same("join gives out no kept map", Look.map(y, 3), "1 2 0");
    }

    private static void join() {
        BitShuffler x = Look.of(2, 2, 64, 65, 0);
        Due.same("keep", x.keep(), 0);
        Look.targets(x, 1, 65, 3, 4, 64);
        x.make(0);
        String steps = Look.steps(x);
        x.join(0);
        Due.same("join: first itself, then the kept one", Look.map(x, 5), "3 3 64 65 1");
        Due.same("join: the program stays", Look.steps(x), steps);
        x.join(0);
        Due.same("join again", Look.map(x, 5), "64 64 64 65 3");
        BitShuffler turn = Look.of(1, 2, 3, 0);
        turn.keep();
        turn.join(0);
        Due.same("a turn with itself", Look.map(turn, 4), "2 3 0 1");
        Look.targets(turn, 64, 65, 64, 65);
        turn.join(0);
        Due.same("ZERO and ONE move along", Look.map(turn, 4), "65 64 65 64");
        joinIsDirectTwice();
    }

    private static void joinIsDirectTwice() {
        int[] first = {5, 64, 0, 0, 65, 2, 7, 6};
        int[] then = {4, 4, 1, 65, 64, 7, 0, 2};
        BitShuffler x = Look.of(then);
        x.keep();
        Look.targets(x, first);
        BitShuffler a = Look.of(first);
        BitShuffler b = Look.of(then);
        x.join(0);
        for (int word = 0; word < 256; word++) {
            Due.same("joined direct(" + word + ")", x.direct(word), b.direct(a.direct(word)));
        }
    }

    private static void wrongJoin() {
        BitShuffler x = Look.of(1, 2, 0);
        x.keep();
        for (int k : new int[] {-1, 1, 7, 8, Integer.MIN_VALUE, Integer.MAX_VALUE}) {
            Due.refused("join(" + k + ")", () -> x.join(k));
        }
        Due.same("behind wrong joins: map", Look.map(x, 3), "1 2 0");
        x.width(4);
        x.target(0, 65);
        Due.noState("join of another width", () -> x.join(0));
        Due.refused("no such map comes before another width", () -> x.join(1));
        Due.same("behind a join of another width: map", Look.map(x, 4), "65 1 2 3");
        x.width(2);
        Due.noState("join of a greater width", () -> x.join(0));
        Due.same("behind a join of a greater width: map", Look.map(x, 2), "0 1");
    }

    private static void invert() {
        BitShuffler x = Look.of(1, 2, 0, 4, 3);
        x.make(0);
        String steps = Look.steps(x);
        x.invert();
        Due.same("invert", Look.map(x, 5), "2 0 1 4 3");
        Due.same("invert: the program stays", Look.steps(x), steps);
        x.invert();
        Due.same("invert twice", Look.map(x, 5), "1 2 0 4 3");
        BitShuffler wide = new BitShuffler();
        wide.width(64);
        for (int k = 0; k < 64; k++) {
            wide.target(k, (k * 5 + 17) % 64);
        }
        wide.keep();
        wide.invert();
        Due.same("inverted", wide.source(17), 0);
        wide.join(0);
        for (int k = 0; k < 64; k++) {
            Due.same("the inverse brings bit " + k + " back", wide.source(k), k);
        }
        BitShuffler one = Look.of(0);
        one.invert();
        Due.same("invert at width 1", one.source(0), 0);
    }

    private static void wrongInvert() {
        for (int[] map : new int[][] {{0, 0}, {64, 0, 1}, {2, 1, 65}, {64}, {65}, {1, 2, 3, 1}}) {
            BitShuffler x = Look.of(map);
            String before = Look.map(x, map.length);
            Due.unsupported("invert of " + before, x::invert);
            Due.same("behind a wrong invert", Look.map(x, map.length), before);
        }
    }
}
