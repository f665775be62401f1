import java.util.ArrayDeque;
import java.util.ArrayList;
import java.util.Arrays;
import java.util.HashMap;
import java.util.List;
import java.util.Map;
import java.util.Set;
import java.util.TreeMap;
import java.util.TreeSet;

/**
 * The document once more, word by word and without regard to speed, by sets and lists: what
 * BitShuffler answers is compared with it. It shares no code with BitShuffler.
 */
final class Model {
    private static final int WITH_ONE = -1;

    private record Step(int op, int d, Set<Integer> m) {
    }

    private int width = 8;
    private List<Integer> map = identity(8);
    private List<Step> program = new ArrayList<>();
    private final List<List<Integer>> kept = new ArrayList<>();

    private static List<Integer> identity(int n) {
        List<Integer> row = new ArrayList<>();
        for (int k = 0; k < n; k++) {
            row.add(k);
        }
        return row;
    }

    private static Set<Integer> setOf(long mask) {
        Set<Integer> set = new TreeSet<>();
        for (int k = 0; k < 64; k++) {
            if ((mask >> k & 1) == 1) {
                set.add(k);
            }
        }
        return set;
    }

    private static long maskOf(Set<Integer> set) {
        long mask = 0;
        for (int k : set) {
            mask |= 1L << k;
        }
        return mask;
    }

    private void needBit(int bit) {
        if (bit < 0 || bit >= width) {
            throw new IllegalArgumentException();
        }
    }

    private Step stepAt(int i) {
        if (i < 0 || i >= program.size()) {
            throw new IndexOutOfBoundsException();
        }
        return program.get(i);
    }

    private boolean isPermutation() {
        return new TreeSet<>(map).equals(new TreeSet<>(identity(width)));
    }

    private boolean sourced(int k) {
        return map.get(k) != 64 && map.get(k) != 65;
    }

    void width(int n) {
        if (n < 1 || n > 64) {
            throw new IllegalArgumentException();
        }
        width = n;
        map = identity(n);
        program = new ArrayList<>();
    }

    void target(int bit, int source) {
        needBit(bit);
        if (source != 64 && source != 65) {
            needBit(source);
        }
        map.set(bit, source);
    }

    int source(int bit) {
        needBit(bit);
        return map.get(bit);
    }

    int make(int kind) {
        List<Step> made = new ArrayList<>();
        switch (kind) {
            case 0 -> byDistances(made, 0);
            case 1 -> byDistances(made, 1);
            case 2 -> bySwaps(made);
            case 3 -> byGroups(made);
            default -> throw new IllegalArgumentException();
        }
        program = made;
        return made.size();
    }

    private void byDistances(List<Step> made, int op) {
        TreeMap<Integer, Set<Integer>> bitsOf = new TreeMap<>();
        for (int k = 0; k < width; k++) {
            if (sourced(k)) {
                int d = k - map.get(k);
                bitsOf.computeIfAbsent(op == 0 ? d : (d + width) % width, key -> new TreeSet<>()).add(k);
            }
        }
        for (Map.Entry<Integer, Set<Integer>> e : bitsOf.entrySet()) {
            made.add(new Step(op, e.getKey(), Set.of()));
            made.add(new Step(2, 0, e.getValue()));
            made.add(new Step(3, 0, Set.of()));
        }
        addOnes(made);
    }

    private void addOnes(List<Step> made) {
        Set<Integer> ones = new TreeSet<>();
        for (int k = 0; k < width; k++) {
            if (map.get(k) == 65) {
                ones.add(k);
            }
        }
        if (!ones.isEmpty()) {
            made.add(new Step(4, 0, ones));
        }
    }

    private void byGroups(List<Step> made) {
        List<List<Integer>> groups = new ArrayList<>();
        for (int k = 0; k < width; k++) {
            if (!sourced(k)) {
                continue;
            }
            List<Integer> found = null;
            for (List<Integer> group : groups) {
                int last = group.get(group.size() - 1);
                if (found == null && map.get(last) < map.get(k)) {
                    found = group;
                }
            }
            if (found == null) {
                found = new ArrayList<>();
                groups.add(found);
            }
            found.add(k);
        }
        for (List<Integer> group : groups) {
            Set<Integer> sources = new TreeSet<>();
            for (int k : group) {
                sources.add(map.get(k));
            }
            made.add(new Step(7, 0, sources));
            made.add(new Step(8, 0, new TreeSet<>(group)));
            made.add(new Step(3, 0, Set.of()));
        }
        addOnes(made);
    }

    private void bySwaps(List<Step> made) {
        boolean power = false;
        for (int n = 1; n <= 64; n *= 2) {
            power |= n == width;
        }
        if (!power || !isPermutation()) {
            throw new UnsupportedOperationException();
        }
        Map<Integer, Set<Integer>> first = new HashMap<>();
        Map<Integer, Set<Integer>> last = new HashMap<>();
        for (int h = 1; h < 64; h *= 2) {
            first.put(h, new TreeSet<>());
            last.put(h, new TreeSet<>());
        }
        block(0, map, first, last);
        for (int h = width / 2; h >= 1; h /= 2) {
            addSwap(made, h, first.get(h));
        }
        for (int h = 2; h <= width / 2; h *= 2) {
            addSwap(made, h, last.get(h));
        }
        made.add(new Step(6, 0, Set.of()));
    }

    private static void addSwap(List<Step> made, int d, Set<Integer> m) {
        if (!m.isEmpty()) {
            made.add(new Step(5, d, m));
        }
    }

    private static void block(int base, List<Integer> wants, Map<Integer, Set<Integer>> first,
            Map<Integer, Set<Integer>> last) {
        int n = wants.size();
        if (n == 1) {
            return;
        }
        if (n == 2) {
            if (wants.get(0) == 1) {
                first.get(1).add(base);
            }
            return;
        }
        int h = n / 2;
        Boolean[] comesLow = new Boolean[n];
        Boolean[] goesLow = new Boolean[n];
        for (int least = 0; least < h; least++) {
            int r = least;
            while (comesLow[r] == null) {
                comesLow[r] = true;
                int s = wants.get(r);
                goesLow[s] = true;
                int apart = (s + h) % n;
                goesLow[apart] = false;
                int other = wants.indexOf(apart);
                comesLow[other] = false;
                r = (other + h) % n;
            }
        }
        List<Integer> low = new ArrayList<>();
        List<Integer> high = new ArrayList<>();
        for (int j = 0; j < h; j++) {
            if (!goesLow[j]) {
                first.get(h).add(base + j);
            }
            if (!comesLow[j]) {
                last.get(h).add(base + j);
            }
            low.add(wants.get(comesLow[j] ? j : j + h) % h);
            high.add(wants.get(comesLow[j] ? j + h : j) % h);
        }
        block(base, low, first, last);
        block(base + h, high, first, last);
    }

    int size() {
        return program.size();
    }

    int step(int i, boolean distance) {
        return distance ? stepAt(i).d() : stepAt(i).op();
    }

    long mask(int i) {
        return maskOf(stepAt(i).m());
    }

    void patch(int i, int amount, long mask) {
        int op = stepAt(i).op();
        Set<Integer> m = setOf(mask);
        boolean good = true;
        for (int k : m) {
            good &= k < width;
        }
        if (op == 0) {
            good &= amount > -width && amount < width;
        } else if (op == 1) {
            good &= amount >= 0 && amount < width;
        } else if (op == 5) {
            good &= amount > 0 && amount < width;
            for (int k : m) {
                good &= (long) k + amount < width && !m.contains(k + amount);
            }
        } else {
            good &= amount == 0;
        }
        if (op == 0 || op == 1 || op == 3 || op == 6) {
            good &= m.isEmpty();
        }
        if (!good) {
            throw new IllegalArgumentException();
        }
        program.set(i, new Step(op, amount, m));
    }

    /** The result of the program for places that hold sets; WITH_ONE in a set says that it is or with 1. */
    private List<Set<Integer>> result(List<Set<Integer>> given) {
        List<Set<Integer>> a = new ArrayList<>(given);
        List<Set<Integer>> t = empties();
        List<Set<Integer>> r = empties();
        for (Step step : program) {
            List<Set<Integer>> next = empties();
            List<Integer> places = new ArrayList<>(step.m());
            switch (step.op()) {
                case 0 -> {
                    for (int k = 0; k < width; k++) {
                        if (k + step.d() >= 0 && k + step.d() < width) {
                            next.set(k + step.d(), a.get(k));
                        }
                    }
                    t = next;
                }
                case 1 -> {
                    for (int k = 0; k < width; k++) {
                        next.set((k + step.d()) % width, a.get(k));
                    }
                    t = next;
                }
                case 2 -> {
                    for (int k : places) {
                        next.set(k, t.get(k));
                    }
                    t = next;
                }
                case 3 -> addAll(r, t);
                case 4 -> {
                    for (int k : places) {
                        r.get(k).add(WITH_ONE);
                    }
                }
                case 5 -> {
                    for (int k : places) {
                        Set<Integer> lower = a.get(k);
                        a.set(k, a.get(k + step.d()));
                        a.set(k + step.d(), lower);
                    }
                }
                case 6 -> addAll(r, a);
                case 7 -> {
                    for (int k = 0; k < places.size(); k++) {
                        next.set(k, a.get(places.get(k)));
                    }
                    t = next;
                }
                default -> {
                    for (int k = 0; k < places.size(); k++) {
                        next.set(places.get(k), t.get(k));
                    }
                    t = next;
                }
            }
        }
        return r;
    }

    private List<Set<Integer>> empties() {
        List<Set<Integer>> row = new ArrayList<>();
        for (int k = 0; k < width; k++) {
            row.add(new TreeSet<>());
        }
        return row;
    }

    private static void addAll(List<Set<Integer>> to, List<Set<Integer>> from) {
        for (int k = 0; k < to.size(); k++) {
            to.get(k).addAll(from.get(k));
        }
    }

    private List<Set<Integer>> symbols() {
        List<Set<Integer>> given = empties();
        for (int k = 0; k < width; k++) {
            given.get(k).add(k);
        }
        return result(given);
    }

    long run(long word) {
        List<Set<Integer>> given = empties();
        for (int k = 0; k < width; k++) {
            if ((word >> k & 1) == 1) {
                given.get(k).add(WITH_ONE);
            }
        }
        List<Set<Integer>> r = result(given);
        long answer = 0;
        for (int k = 0; k < width; k++) {
            answer |= r.get(k).isEmpty() ? 0 : 1L << k;
        }
        return answer;
    }

    long direct(long word) {
        long answer = 0;
        for (int k = 0; k < width; k++) {
            int s = map.get(k);
            boolean bit = s == 65 || s != 64 && (word >> s & 1) == 1;
            answer |= bit ? 1L << k : 0;
        }
        return answer;
    }

    int check() {
        List<Set<Integer>> r = symbols();
        for (int k = 0; k < width; k++) {
            boolean right;
            if (map.get(k) == 65) {
                right = r.get(k).contains(WITH_ONE);
            } else if (map.get(k) == 64) {
                right = r.get(k).isEmpty();
            } else {
                right = r.get(k).equals(Set.of(map.get(k)));
            }
            if (!right) {
                return k + 1;
            }
        }
        return 0;
    }

    long origins(int bit) {
        needBit(bit);
        Set<Integer> set = new TreeSet<>(symbols().get(bit));
        set.remove(WITH_ONE);
        return maskOf(set);
    }

    boolean constant(int bit) {
        needBit(bit);
        return symbols().get(bit).contains(WITH_ONE);
    }

    int ticks() {
        int sum = 0;
        for (Step step : program) {
            sum += step.op() == 5 ? 6 : step.op() >= 7 ? 3 : 1;
        }
        return sum;
    }

    int keep() {
        if (kept.size() == 8) {
            throw new IllegalStateException();
        }
        kept.add(new ArrayList<>(map));
        return kept.size() - 1;
    }

    void join(int k) {
        if (k < 0 || k >= kept.size()) {
            throw new IllegalArgumentException();
        }
        if (kept.get(k).size() != width) {
            throw new IllegalStateException();
        }
        List<Integer> joined = new ArrayList<>();
        for (int s : kept.get(k)) {
            joined.add(s == 64 || s == 65 ? s : map.get(s));
        }
        map = joined;
    }

    void invert() {
        if (!isPermutation()) {
            throw new UnsupportedOperationException();
        }
        List<Integer> inverse = new ArrayList<>();
        for (int k = 0; k < width; k++) {
            inverse.add(map.indexOf(k));
        }
        map = inverse;
    }

    int least() {
        if (width > 4 || !isPermutation()) {
            throw new UnsupportedOperationException();
        }
        Map<List<Integer>, Integer> swapsTo = new HashMap<>();
        ArrayDeque<List<Integer>> waiting = new ArrayDeque<>();
        swapsTo.put(identity(width), 0);
        waiting.add(identity(width));
        while (!waiting.isEmpty()) {
            List<Integer> from = waiting.remove();
            for (int d = 1; d < width; d++) {
                for (int m = 0; m < 1 << width; m++) {
                    List<Integer> to = swapped(from, d, m);
                    if (to != null && !swapsTo.containsKey(to)) {
                        swapsTo.put(to, swapsTo.get(from) + 1);
                        waiting.add(to);
                    }
                }
            }
        }
        return swapsTo.get(map);
    }

    /** The row with the pairs of the mask swapped, or null if the mask is none for the distance. */
    private static List<Integer> swapped(List<Integer> row, int d, int m) {
        Integer[] next = row.toArray(new Integer[0]);
        for (int k = 0; k < next.length; k++) {
            if ((m >> k & 1) == 1) {
                if (k + d >= next.length || (m >> (k + d) & 1) == 1) {
                    return null;
                }
                next[k] = row.get(k + d);
                next[k + d] = row.get(k);
            }
        }
        return Arrays.asList(next);
    }
}
