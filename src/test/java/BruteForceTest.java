import java.util.Random;

/** THE TRACE by its definition alone: all input sequences in order of length, then lexicographic order. */
public final class BruteForceTest {
    public static void main(String[] args) {
        int unsafe = 0;
        for (int seed = 0; seed < 4000 && Due.wrongSoFar() < 20; seed++) {
            // The seed is fixed, so that every run of this test is the same.
            Random random = new Random(seed);
            InductChecker x = circuit(random);
            int[] due = leastCounterexample(x);
            String told = "circuit " + seed + ": ";
            Due.is(told + "check()", x.check(), due == null ? 1 : 2);
            if (due != null && x.getResult() == 2) {
                unsafe++;
                Due.is(told + "getTraceLength()", x.getTraceLength(), due.length - 1);
                for (int step = 0; step < due.length; step++) {
                    Due.is(told + "getTraceInputs(" + step + ")", x.getTraceInputs(step), due[step]);
                    Due.is(told + "getTraceState(" + step + ")", x.getTraceState(step), stateAfter(x, due, step));
                }
            }
        }
        Due.is("many circuits were UNSAFE", unsafe > 500, true);
        Due.end();
    }

    // Small enough shapes, as all sequences of inputs are tried.
    private static InductChecker circuit(Random random) {
        int latches = 1 + random.nextInt(3);
        int inputs = latches == 3 ? random.nextInt(2) : random.nextInt(4);
        return Circuits.random(random, inputs, latches);
    }

    private static int[] leastCounterexample(InductChecker x) {
        int bits = x.getInputCount();
        for (int d = 0; d < 1 << x.getLatchCount(); d++) {
            int[] sequence = new int[d + 1];
            // Counting up with x_0 in the highest digit gives the sequences in lexicographic order.
            for (int number = 0; number < 1 << bits * (d + 1); number++) {
                for (int t = 0; t <= d; t++) {
                    sequence[t] = number >> bits * (d - t) & (1 << bits) - 1;
                }
                int last = stateAfter(x, sequence, d);
                if (x.evalLit(x.getBadLit(), last, sequence[d]) == 1) {
                    return sequence;
                }
            }
        }
        return null;
    }

    private static int stateAfter(InductChecker x, int[] sequence, int steps) {
        int state = 0;
        for (int latch = 0; latch < x.getLatchCount(); latch++) {
            state |= x.getLatchInit(latch) << latch;
        }
        for (int t = 0; t < steps; t++) {
            int after = 0;
            for (int latch = 0; latch < x.getLatchCount(); latch++) {
                after |= x.evalLit(x.getLatchNext(latch), state, sequence[t]) << latch;
            }
            state = after;
        }
        return state;
    }
}
