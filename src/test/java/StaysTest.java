import java.util.function.Consumer;

/**
 * "Nothing is promised beyond the answers and state changes described above": each call changes the
 * map, the program or the kept maps where the document says so, and leaves the rest as it was. What
 * a refused call leaves is looked at by the tests of the edges.
 */
public final class StaysTest {
    private static final int WIDTH = 4;
    private static final String MAP = "1 3 0 2";
    private static final String STEPS = "5:2:1 5:3:1 5:2:2 6:0:0";
    private static final int[] KEPT_WIDTHS = {3, 4, 4};
    private static final String KEPT = "2 65 64; 1 2 3 0; 3 65 64 1; ";

    public static void main(String[] args) {
        asking();
        askingTwice();
        width();
        target();
        make();
        patch();
        keep();
        join();
        invert();
        manyTogether();
        Due.end();
    }

    /** A permutation, its swaps with one of them patched, and three kept maps. */
    private static BitShuffler scene() {
        BitShuffler x = Look.of(2, 65, 64);
        x.keep();
        x.width(WIDTH);
        Look.targets(x, 1, 2, 3, 0);
        x.keep();
        Look.targets(x, 3, 65, 64, 1);
        x.keep();
        Look.targets(x, 1, 3, 0, 2);
        x.make(2);
        x.patch(1, 3, 1);
        return x;
    }

    private static void mapStays(String what, Consumer<BitShuffler> call) {
        BitShuffler x = scene();
        call.accept(x);
        Due.same("behind " + what + ": map", Look.map(x, WIDTH), MAP);
        Due.refused("behind " + what + ": no bit beyond the width", () -> x.source(WIDTH));
    }

    private static void programStays(String what, Consumer<BitShuffler> call) {
        BitShuffler x = scene();
        call.accept(x);
        Due.same("behind " + what + ": steps", Look.steps(x), STEPS);
        Due.same("behind " + what + ": run(1)", x.run(1), 4);
        Due.same("behind " + what + ": symbols", Look.symbols(x, WIDTH), "8 4 1 2");
    }

    private static void keptStay(String what, Consumer<BitShuffler> call) {
        BitShuffler x = scene();
        call.accept(x);
        Due.same("behind " + what + ": kept maps", kept(x, KEPT_WIDTHS), KEPT);
        Due.refused("behind " + what + ": join of one more", () -> x.join(KEPT_WIDTHS.length));
    }

    /** The kept maps, each joined to a map that is as at first: so the map changes. */
    private static String kept(BitShuffler x, int... widths) {
        StringBuilder text = new StringBuilder();
        for (int k = 0; k < widths.length; k++) {
            int number = k;
            x.width(widths[k]);
            String answer = Due.answer(() -> x.join(number));
            text.append(answer.equals("0") ? Look.map(x, widths[k]) : answer).append("; ");
        }
        return text.toString();
    }

    private static void allStays(String what, Consumer<BitShuffler> call) {
        mapStays(what, call);
        programStays(what, call);
        keptStay(what, call);
    }

    /** Promises 4, 6 to 8, 10 to 15 and 19: they answer, and nothing changes. */
    private static void asking() {
        allStays("nothing", x -> { });
        allStays("source", x -> x.source(1));
        allStays("size", BitShuffler::size);
        allStays("step", x -> x.step(1, false));
        allStays("step, distance", x -> x.step(1, true));
        allStays("mask", x -> x.mask(2));
        allStays("run", x -> x.run(-1));
        allStays("direct", x -> x.direct(-1));
        allStays("check", BitShuffler::check);
        allStays("origins", x -> x.origins(3));
        allStays("constant", x -> x.constant(1));
        allStays("ticks", BitShuffler::ticks);
        allStays("least", BitShuffler::least);
        allStays("all of them", x -> Held.of(x, WIDTH));
    }

    /** Promises 4, 6 to 8, 10 to 15 and 19: asked again, they answer the same. */
    private static void askingTwice() {
        BitShuffler x = scene();
        Due.same("a permutation again", Held.of(x, WIDTH), Held.of(x, WIDTH));
        BitShuffler y = Held.scene();
        Due.same("no permutation again", Held.of(y, Held.WIDTH), Held.of(y, Held.WIDTH));
        BitShuffler z = new BitShuffler();
        Due.same("a new object again", Held.of(z, 8), Held.of(z, 8));
    }

    /** Promise 2: "kept maps stay." */
    private static void width() {
        for (int n : new int[] {1, 3, WIDTH, 5, 64}) {
            keptStay("width(" + n + ")", x -> x.width(n));
        }
    }

    /** Promise 3: "(the program stays)", and the other bits and the kept maps too. */
    private static void target() {
        for (int source : new int[] {0, 1, 3, 64, 65}) {
            String what = "target(1, " + source + ")";
            programStays(what, x -> x.target(1, source));
            keptStay(what, x -> x.target(1, source));
            BitShuffler x = scene();
            x.target(1, source);
            Due.same("behind " + what + ": map", Look.map(x, WIDTH), "1 " + source + " 0 2");
        }
    }

    /** Promise 5: "The program of a kind for the map": the map and the kept maps stay. */
    private static void make() {
        for (int kind = 0; kind < 4; kind++) {
            int each = kind;
            mapStays("make(" + kind + ")", x -> x.make(each));
            keptStay("make(" + kind + ")", x -> x.make(each));
        }
    }

    /** Promise 9: "Step i has another amount and mask.": the other steps, its op, the map and the kept maps stay. */
    private static void patch() {
        mapStays("patch(0, 1, 5)", x -> x.patch(0, 1, 5));
        keptStay("patch(0, 1, 5)", x -> x.patch(0, 1, 5));
        BitShuffler x = scene();
        x.patch(0, 1, 5);
        Due.same("behind patch: steps", Look.steps(x), "5:1:5 5:3:1 5:2:2 6:0:0");
        Due.same("behind patch: ticks()", x.ticks(), 19);
    }

    /** Promise 16: "The map is kept": the map, the program and the maps that were kept before stay. */
    private static void keep() {
        mapStays("keep", BitShuffler::keep);
        programStays("keep", BitShuffler::keep);
        BitShuffler x = scene();
        x.keep();
        Due.same("behind keep: kept maps", kept(x, 3, 4, 4, 4, 4), KEPT + MAP + "; throws.IllegalArgumentException; ");
    }

    /** Promise 17: "The map becomes: first itself, then kept map k": the program and the kept maps stay. */
    private static void join() {
        for (int k : new int[] {1, 2}) {
            programStays("join(" + k + ")", x -> x.join(k));
            keptStay("join(" + k + ")", x -> x.join(k));
        }
    }

    /** Promise 18: "The map becomes the one that brings all bits back.": the program and the kept maps stay. */
    private static void invert() {
        programStays("invert", BitShuffler::invert);
        keptStay("invert", BitShuffler::invert);
    }

    /** Calls that change the map and the program, one behind the other: the kept maps stay, and the width. */
    private static void manyTogether() {
        keptStay("many", x -> {
            x.invert();
            x.make(0);
            x.join(2);
            x.make(1);
            x.patch(0, 3, 0);
            x.target(0, 65);
            x.make(3);
            x.check();
            x.width(64);
            x.make(2);
        });
        BitShuffler x = scene();
        x.join(1);
        x.make(1);
        x.join(2);
        x.target(0, 65);
        Due.same("map", Look.map(x, WIDTH), "65 65 64 0");
        Due.refused("source(4)", () -> x.source(WIDTH));
    }
}
