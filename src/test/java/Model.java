import java.util.ArrayList;
import java.util.Comparator;
import java.util.List;
import java.util.Map;
import java.util.TreeMap;

/**
 * A second, slower checker in other words, to compare answers with. It searches
 * forward from init, keeping for each state the least input sequence that
 * reaches it in just so many steps, where the program measures backward.
 */
final class Model {
    private static final Comparator<List<Integer>> LEXICOGRAPHIC = (a, b) -> {
        for (int k = 0; k < a.size(); k++) {
            if (!a.get(k).equals(b.get(k))) {
                return Integer.compare(a.get(k), b.get(k));
            }
        }
        return 0;
    };

    final int inputs;
    final int latches;
    final List<int[]> gates = new ArrayList<>();
    final int[] next;
    final int[] init;
    int bad = 0;
    int result = 0;
    List<Integer> trace = null;

    Model(int inputs, int latches) {
        this.inputs = Math.max(0, Math.min(3, inputs));
        this.latches = Math.max(1, Math.min(4, latches));
        next = new int[this.latches];
        init = new int[this.latches];
        for (int j = 0; j < this.latches; j++) {
            next[j] = 2 * (1 + this.inputs + j);
        }
    }

    int literals() {
        return 2 * (1 + inputs + latches + gates.size());
    }

    boolean valid(int lit) {
        return 0 <= lit && lit < literals();
    }

    private void edited() {
        result = 0;
        trace = null;
    }

    int addAnd(int left, int right) {
        if (gates.size() == 16 || !valid(left) || !valid(right)) {
            return -1;
        }
        int answer = literals();
        gates.add(new int[] {left, right});
        edited();
        return answer;
    }

    boolean setLatch(int latch, int nextLit, int initValue) {
        if (latch < 0 || latch >= latches || !valid(nextLit) || initValue < 0 || initValue > 1) {
            return false;
        }
        next[latch] = nextLit;
        init[latch] = initValue;
        edited();
        return true;
    }

    boolean setBad(int lit) {
        if (!valid(lit)) {
            return false;
        }
        bad = lit;
        edited();
        return true;
    }

    private boolean[] variables(int state, int vector) {
        boolean[] value = new boolean[literals() / 2];
        for (int j = 0; j < inputs; j++) {
            value[1 + j] = (vector >>> j) % 2 != 0;
        }
        for (int j = 0; j < latches; j++) {
            value[1 + inputs + j] = (state >>> j) % 2 != 0;
        }
        for (int g = 0; g < gates.size(); g++) {
            int[] gate = gates.get(g);
            value[1 + inputs + latches + g] = literal(value, gate[0]) && literal(value, gate[1]);
        }
        return value;
    }

    private static boolean literal(boolean[] value, int lit) {
        return lit % 2 == 0 ? value[lit / 2] : !value[lit / 2];
    }

    int evalLit(int lit, int state, int vector) {
        if (!valid(lit)) {
            return -1;
        }
        return literal(variables(state, vector), lit) ? 1 : 0;
    }

    private int nextState(int state, int vector) {
        boolean[] value = variables(state, vector);
        int answer = 0;
        for (int j = 0; j < latches; j++) {
            answer += literal(value, next[j]) ? 1 << j : 0;
        }
        return answer;
    }

    int initState() {
        int answer = 0;
        for (int j = 0; j < latches; j++) {
            answer += init[j] << j;
        }
        return answer;
    }

    int check() {
        trace = null;
        Map<Integer, List<Integer>> reached = new TreeMap<>();
        reached.put(initState(), List.of());
        for (int d = 0; d < 1 << latches && trace == null; d++) {
            Map<Integer, List<Integer>> after = new TreeMap<>();
            for (Map.Entry<Integer, List<Integer>> way : reached.entrySet()) {
                extend(way.getKey(), way.getValue(), after);
            }
            reached = after;
        }
        result = trace == null ? 1 : 2;
        return result;
    }

    private void extend(int state, List<Integer> sequence, Map<Integer, List<Integer>> after) {
        for (int vector = 0; vector < 1 << inputs; vector++) {
            List<Integer> longer = new ArrayList<>(sequence);
            longer.add(vector);
            if (evalLit(bad, state, vector) == 1) {
                trace = lesser(trace, longer);
            }
            int target = nextState(state, vector);
            after.put(target, lesser(after.get(target), longer));
        }
    }

    private static List<Integer> lesser(List<Integer> old, List<Integer> other) {
        return old == null || LEXICOGRAPHIC.compare(other, old) < 0 ? other : old;
    }

    int traceLength() {
        return result == 2 ? trace.size() - 1 : -1;
    }

    int traceInputs(int step) {
        return result == 2 && step >= 0 && step < trace.size() ? trace.get(step) : -1;
    }

    int traceState(int step) {
        if (result != 2 || step < 0 || step >= trace.size()) {
            return -1;
        }
        int state = initState();
        for (int t = 0; t < step; t++) {
            state = nextState(state, trace.get(t));
        }
        return state;
    }
}
