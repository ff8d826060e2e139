import java.util.Set;
import java.util.TreeSet;

/** Arguments that are too small or too large. */
final class Outside {
    private Outside() {
    }

    /**
     * The nearest and the furthest ints below least and above greatest, and those that would
     * fall inside if some of their higher bits were lost.
     */
    static int[] of(int least, int greatest) {
        Set<Integer> all = new TreeSet<>(Set.of(least - 1, least - 2, greatest + 1, greatest + 2,
            Integer.MIN_VALUE, Integer.MIN_VALUE + 1, Integer.MAX_VALUE - 1, Integer.MAX_VALUE));
        for (int bit = 0; bit < 32; bit++) {
            all.add(least + (1 << bit));
            all.add(greatest + (1 << bit));
            all.add(least - (1 << bit));
            all.add(-greatest - (1 << bit));
        }
        all.removeIf(value -> value >= least && value <= greatest);
        return all.stream().mapToInt(Integer::intValue).toArray();
    }

    static int[] ofLiterals(int inputs, int latches, int gates) {
        return of(0, Shapes.literals(inputs, latches, gates) - 1);
    }
}
