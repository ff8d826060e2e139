import java.util.Random;

/** THE TRACE by its definition alone: all input sequences in order of length, then lexicographic order. */
public final class BruteForceTest {
    // What was asked for, not what the object says of itself: a wrong count must not make the search endless.
    private final int inputs;
    private final int latches;
    private final InductChecker x;

    // Small enough shapes, as all sequences of inputs are tried.
    private BruteForceTest(Random random) {
        latches = 1 + random.nextInt(3);
        inputs = latches == 3 ? random.nextInt(2) : random.nextInt(4);
        x = Circuits.random(random, inputs, latches);
    }

    public static void main(String[] args) {
        int unsafe = 0;
        for (int seed = 0; seed < 4000 && Due.wrongSoFar() < 20; seed++) {
            // The seed is fixed, so that every run of this test is the same.
            BruteForceTest test = new BruteForceTest(new Random(seed));
            if (test.isUnsafe("circuit " + seed + ": ")) {
                unsafe++;
            }
        }
        Due.is("many circuits were UNSAFE", unsafe > 500, true);
        Due.end();
    }

    private boolean isUnsafe(String told) {
        int[] due = leastCounterexample();
        Due.is(told + "check()", x.check(), due == null ? 1 : 2);
        if (due == null) {
            return false;
        }
        Due.is(told + "getTraceLength()", x.getTraceLength(), due.length - 1);
        for (int step = 0; step < due.length; step++) {
            Due.is(told + "getTraceInputs(" + step + ")", x.getTraceInputs(step), due[step]);
            Due.is(told + "getTraceState(" + step + ")", x.getTraceState(step), stateAfter(due, step));
        }
        return true;
    }

    private int[] leastCounterexample() {
        for (int d = 0; d < 1 << latches; d++) {
            int[] sequence = new int[d + 1];
            // Counting up with x_0 in the highest digit gives the sequences in lexicographic order.
            for (int number = 0; number < 1 << inputs * (d + 1); number++) {
                for (int t = 0; t <= d; t++) {
                    sequence[t] = number >> inputs * (d - t) & (1 << inputs) - 1;
                }
                if (x.evalLit(x.getBadLit(), stateAfter(sequence, d), sequence[d]) == 1) {
                    return sequence;
                }
            }
        }
        return null;
    }

    private int stateAfter(int[] sequence, int steps) {
        int state = 0;
        for (int latch = 0; latch < latches; latch++) {
            state |= x.getLatchInit(latch) << latch;
        }
        for (int t = 0; t < steps; t++) {
            int after = 0;
            for (int latch = 0; latch < latches; latch++) {
                after |= x.evalLit(x.getLatchNext(latch), state, sequence[t]) << latch;
            }
            state = after;
        }
        return state;
    }
}
