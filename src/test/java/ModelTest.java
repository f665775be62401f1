import java.util.Random;
import java.util.function.LongSupplier;

/** Runs of many calls, the same each time, on an object and on the model: all answers agree. */
public final class ModelTest {
    private static final int RUNS = 1500;
    private static final int CALLS = 512;

    private final Random random;
    private final BitShuffler x = new BitShuffler();
    private final Model model = new Model();
    private final StringBuilder told = new StringBuilder();
    private int width = 8;
    private int calls = 0;
    private boolean good = true;

    private ModelTest(int seed) {
        random = new Random(seed);
    }

    public static void main(String[] args) {
        for (int seed = 1; seed <= RUNS; seed++) {
            new ModelTest(seed).all(seed);
        }
        everySmallPermutation(1);
        everySmallPermutation(2);
        everySmallPermutation(3);
        everySmallPermutation(4);
        Due.end();
    }

    private void all(int seed) {
        while (calls < CALLS && good) {
            act();
        }
        if (!good) {
            Due.tell("run " + seed + ":" + told);
        }
    }

    private String compare(String what, LongSupplier got, LongSupplier due) {
        if (calls >= CALLS || !good) {
            return "";
        }
        calls++;
        String a = Due.answer(got);
        String b = Due.answer(due);
        told.append(' ').append(what).append('=').append(a);
        if (!a.equals(b)) {
            good = false;
            told.append(", due is ").append(b);
        }
        return a;
    }

    private String compare(String what, Runnable got, Runnable due) {
        return compare(what, () -> {
            got.run();
            return 0;
        }, () -> {
            due.run();
            return 0;
        });
    }

    private int pick(int... from) {
        return from[random.nextInt(from.length)];
    }

    private void act() {
        switch (random.nextInt(16)) {
            case 0 -> setWidth();
            case 1, 2 -> setTargets(1 + random.nextInt(4));
            case 3 -> setPermutation();
            case 4, 5, 6 -> makeOne();
            case 7, 8, 9 -> patchOne();
            case 10 -> maps();
            case 11 -> readSteps();
            case 12 -> readSymbols();
            default -> answers();
        }
    }

    private void setWidth() {
        int n = random.nextInt(3) > 0 ? pick(1, 2, 4, 4, 8, 16, 32, 64, 3, 0, 65) : random.nextInt(68) - 1;
        if (random.nextInt(3) == 0 && compare("width(" + n + ")", () -> x.width(n), () -> model.width(n)).equals("0")) {
            width = n;
        }
    }

    private int someBit() {
        return random.nextInt(12) == 0 ? pick(-1, width, width + 1, 63, 64) : random.nextInt(width);
    }

    private void setTargets(int count) {
        for (int k = 0; k < count; k++) {
            int bit = someBit();
            int source = random.nextInt(4) == 0 ? pick(64, 65, 64, 65, 66) : someBit();
            compare("target(" + bit + ", " + source + ")", () -> x.target(bit, source), () -> model.target(bit, source));
        }
    }

    private void setPermutation() {
        if (width > 16 && random.nextInt(4) > 0) {
            return;
        }
        int[] row = new int[width];
        for (int k = 0; k < width; k++) {
            int at = random.nextInt(k + 1);
            row[k] = row[at];
            row[at] = k;
        }
        for (int k = 0; k < width; k++) {
            int bit = k;
            compare("target(" + k + ", " + row[k] + ")", () -> x.target(bit, row[bit]), () -> model.target(bit, row[bit]));
        }
        compare("make(2)", () -> x.make(2), () -> model.make(2));
        readSteps();
    }

    private void makeOne() {
        int kind = random.nextInt(20) == 0 ? pick(-1, 4) : random.nextInt(4);
        compare("make(" + kind + ")", () -> x.make(kind), () -> model.make(kind));
    }

    private void patchOne() {
        int size = model.size();
        int i = random.nextInt(12) == 0 ? pick(-1, size, size + 1) : random.nextInt(size + 1);
        int amount = random.nextBoolean() ? 0 : random.nextInt(2 * width + 3) - width - 1;
        int op = i >= 0 && i < size ? model.step(i, false) : 0;
        boolean masked = op == 2 || op == 4 || op == 5 || op >= 7;
        long mask = masked == (random.nextInt(8) > 0) ? random.nextLong() & random.nextLong() : 0;
        int cut = random.nextInt(6) == 0 ? 0 : 64 - width;
        mask = mask << cut >>> cut;
        if (op == 5 && random.nextInt(4) > 0 && width > 1) {
            amount = 1 + random.nextInt(width - 1);
            mask = 0;
            for (int k = 0; k + amount < width; k++) {
                boolean free = k < amount || (mask >> (k - amount) & 1) == 0;
                mask |= free && random.nextBoolean() ? 1L << k : 0;
            }
        }
        int d = (op >= 2 && op != 5 && random.nextInt(6) > 0) ? 0 : amount;
        long m = mask;
        compare("patch(" + i + ", " + d + ", " + m + ")", () -> x.patch(i, d, m), () -> model.patch(i, d, m));
    }

    private void maps() {
        switch (random.nextInt(3)) {
            case 0 -> compare("keep()", x::keep, model::keep);
            case 1 -> {
                int k = random.nextInt(10) - 1;
                compare("join(" + k + ")", () -> x.join(k), () -> model.join(k));
            }
            default -> compare("invert()", x::invert, model::invert);
        }
        int bit = random.nextInt(width);
        compare("source(" + bit + ")", () -> x.source(bit), () -> model.source(bit));
    }

    private void readSteps() {
        compare("size()", x::size, model::size);
        int size = model.size();
        int start = size > 12 ? random.nextInt(size - 10) : 0;
        for (int k = start; k <= size && k < start + 13; k++) {
            int i = k;
            compare("step(" + i + ", false)", () -> x.step(i, false), () -> model.step(i, false));
            compare("step(" + i + ", true)", () -> x.step(i, true), () -> model.step(i, true));
            compare("mask(" + i + ")", () -> x.mask(i), () -> model.mask(i));
        }
    }

    private void readSymbols() {
        for (int k = 0; k < 4; k++) {
            int bit = someBit();
            compare("constant(" + bit + ")", () -> x.constant(bit) ? 1 : 0, () -> model.constant(bit) ? 1 : 0);
            compare("origins(" + bit + ")", () -> x.origins(bit), () -> model.origins(bit));
        }
        compare("check()", x::check, model::check);
    }

    private void answers() {
        long word = random.nextInt(6) == 0 ? pick(0, 1, -1, Integer.MIN_VALUE) : random.nextLong();
        compare("run(" + word + ")", () -> x.run(word), () -> model.run(word));
        compare("direct(" + word + ")", () -> x.direct(word), () -> model.direct(word));
        compare("check()", x::check, model::check);
        compare("ticks()", x::ticks, model::ticks);
        compare("least()", x::least, model::least);
        int bit = someBit();
        compare("source(" + bit + ")", () -> x.source(bit), () -> model.source(bit));
    }

    private static void everySmallPermutation(int n) {
        int codes = 1;
        for (int k = 0; k < n; k++) {
            codes *= n;
        }
        for (int code = 0; code < codes; code++) {
            BitShuffler x = new BitShuffler();
            Model model = new Model();
            x.width(n);
            model.width(n);
            int rest = code;
            for (int k = 0; k < n; k++) {
                x.target(k, rest % n);
                model.target(k, rest % n);
                rest /= n;
            }
            Due.same("least() of map " + code + " of width " + n, Due.answer(() -> x.least()),
                    Due.answer(() -> model.least()));
        }
    }
}
