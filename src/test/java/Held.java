import java.util.function.Consumer;

/** What an object holds, as a text, and whether a refused call leaves all of it as it was. */
final class Held {
    /** The width of the scene's map; its kept maps have the widths 3 and 5. */
    static final int WIDTH = 5;
    /** How many steps the scene's program has. */
    static final int SIZE = 10;
    /** How many maps the scene has kept. */
    static final int KEPT = 2;

    private static final long[] WORDS = {0, 1, -1L, 0x5555555555555555L, 0x8000000180000001L};

    private Held() {
    }

    /** An object that holds something of each: kept maps, a map that is not as at first, a patched program. */
    static BitShuffler scene() {
        BitShuffler x = Look.of(1, 2, 0);
        x.keep();
        x.width(WIDTH);
        Look.targets(x, 4, 0, 65, 64, 2);
        x.keep();
        Look.targets(x, 2, 65, 64, 2, 0);
        x.make(3);
        x.patch(4, 0, 28);
        return x;
    }

    /** All that can be read of an object without changing it. */
    static String of(BitShuffler x, int width) {
        StringBuilder text = new StringBuilder("map ").append(Look.map(x, width));
        text.append(", beyond it ").append(Due.answer(() -> x.source(width)));
        text.append(", steps ").append(Look.steps(x));
        text.append(", symbols ").append(Look.symbols(x, width));
        text.append(", check ").append(x.check()).append(", ticks ").append(x.ticks());
        text.append(", least ").append(Due.answer(() -> x.least()));
        for (long word : WORDS) {
            text.append(", ").append(word).append(" runs to ").append(x.run(word));
            text.append(" and is mapped to ").append(x.direct(word));
        }
        return text.toString();
    }

    /** The kept maps of these widths, each joined to a map that is as at first: changes the map. */
    static String kept(BitShuffler x, int... widths) {
        StringBuilder text = new StringBuilder();
        for (int k = 0; k <= 8; k++) {
            int number = k;
            for (int n : widths) {
                x.width(n);
                String answer = Due.answer(() -> x.join(number));
                text.append(k).append(" at ").append(n).append(": ");
                text.append(answer.equals("0") ? Look.map(x, n) : answer).append("; ");
            }
        }
        return text.toString();
    }

    /** That a call on the scene throws this, and that all that the scene holds stays. */
    static void stays(String what, Class<? extends RuntimeException> due, Consumer<BitShuffler> call) {
        BitShuffler x = scene();
        Due.thrown(what, due, () -> call.accept(x));
        BitShuffler untouched = scene();
        Due.same("behind " + what + ": all", of(x, WIDTH), of(untouched, WIDTH));
        Due.same("behind " + what + ": kept maps", kept(x, 3, WIDTH), kept(untouched, 3, WIDTH));
    }
}
