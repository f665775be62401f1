/** Short ways to set up an object and to read what it holds. */
final class Look {
    private Look() {
    }

    /** A new object of the width that the row has, with the row's sources. */
    static BitShuffler of(int... sources) {
        BitShuffler x = new BitShuffler();
        x.width(sources.length);
        targets(x, sources);
        return x;
    }

    static void targets(BitShuffler x, int... sources) {
        for (int k = 0; k < sources.length; k++) {
            x.target(k, sources[k]);
        }
    }

    static String map(BitShuffler x, int width) {
        StringBuilder text = new StringBuilder();
        for (int k = 0; k < width; k++) {
            text.append(k == 0 ? "" : " ").append(x.source(k));
        }
        return text.toString();
    }

    /** The steps as op:amount:mask, with a blank between them. */
    static String steps(BitShuffler x) {
        StringBuilder text = new StringBuilder();
        int size = x.size();
        for (int i = 0; i < size; i++) {
            text.append(i == 0 ? "" : " ").append(x.step(i, false)).append(':').append(x.step(i, true))
                    .append(':').append(Long.toHexString(x.mask(i)));
        }
        return text.toString();
    }

    /** The program that a kind makes, or the exception's name. */
    static String made(BitShuffler x, int kind) {
        String answer = Due.answer(() -> x.make(kind));
        if (answer.startsWith("throws")) {
            return answer;
        }
        Due.same("size() behind make(" + kind + ")", answer, Integer.toString(x.size()));
        return steps(x);
    }

    /** The sets of all result bits by symbols, a + behind those that are or with 1. */
    static String symbols(BitShuffler x, int width) {
        StringBuilder text = new StringBuilder();
        for (int k = 0; k < width; k++) {
            text.append(k == 0 ? "" : " ").append(Long.toHexString(x.origins(k))).append(x.constant(k) ? "+" : "");
        }
        return text.toString();
    }
}
