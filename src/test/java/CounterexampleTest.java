import java.util.Arrays;

/** 'Counterexamples and THE TRACE': which counterexample is kept when there are many. */
public final class CounterexampleTest {
    public static void main(String[] args) {
        Due.sentence("THE TRACE: A COUNTEREXAMPLE of length d >= 0: length 0", CounterexampleTest::lengthZero);
        Due.sentence("THE TRACE: input vectors x_0..x_d (each 0 <= x_t < 2^I)", CounterexampleTest::vectorsFromEndToEnd);
        Due.sentence("THE TRACE: s_0 = init", CounterexampleTest::startsAtInit);
        Due.sentence("THE TRACE: s_(t+1) = next(s_t, x_t) for every t < d", CounterexampleTest::lastVectorMovesNothing);
        Due.sentence("THE TRACE: bad(s_d, x_d) = 1", CounterexampleTest::badNeedsTheLastVector);
        Due.sentence("THE TRACE: among all counterexamples, the one of least d", CounterexampleTest::leastLength);
        Due.sentence("THE TRACE: least in lexicographic order (x_0 compared first)", CounterexampleTest::firstVectorFirst);
        Due.sentence("THE TRACE: lexicographic order: later vectors when the first are equal",
            CounterexampleTest::laterVectorsNext);
        Due.sentence("THE TRACE: values compared as non-negative numbers", CounterexampleTest::comparedAsNumbers);
        Due.sentence("THE TRACE: the least d is below 2^L, so a trace has at most 16 steps",
            CounterexampleTest::longest);
        Due.sentence("THE TRACE: there is none when no sequence is bad", CounterexampleTest::none);
        Due.end();
    }

    private static void trace(InductChecker x, int[] inputs, int[] states) {
        int d = inputs.length - 1;
        Due.is("check()", x.check(), 2);
        Due.is("getTraceLength()", x.getTraceLength(), d);
        for (int step = 0; step <= d; step++) {
            Due.is("getTraceInputs(" + step + ")", x.getTraceInputs(step), inputs[step]);
            Due.is("getTraceState(" + step + ")", x.getTraceState(step), states[step]);
        }
        Due.is("getTraceInputs(d + 1)", x.getTraceInputs(d + 1), -1);
        Due.is("getTraceState(d + 1)", x.getTraceState(d + 1), -1);
    }

    private static void lengthZero() {
        Shapes.each((inputs, latches) -> {
            InductChecker always = new InductChecker(inputs, latches);
            always.setLatch(latches - 1, 0, 1);
            always.setBad(1);
            trace(always, new int[] {0}, new int[] {1 << latches - 1});
            InductChecker atInit = new InductChecker(inputs, latches);
            atInit.setBad(Circuits.latch(atInit, 0) + 1);
            trace(atInit, new int[] {0}, new int[] {0});
        });
    }

    private static int[] times(int count, int value) {
        int[] all = new int[count];
        Arrays.fill(all, value);
        return all;
    }

    private static int[] countingUp(int count) {
        int[] all = new int[count];
        Arrays.setAll(all, k -> k);
        return all;
    }

    // Each vector in turn is the only one that lets the latch go on, and then the only bad one.
    private static void vectorsFromEndToEnd() {
        Shapes.each((inputs, latches) -> {
            for (int vector = 0; vector < 1 << inputs; vector++) {
                InductChecker x = new InductChecker(inputs, latches);
                int only = Circuits.vectorIs(x, vector);
                x.setLatch(latches - 1, only, 0);
                x.setBad(x.addAnd(only, Circuits.latch(x, latches - 1)));
                trace(x, times(2, vector), new int[] {0, 1 << latches - 1});
            }
        });
    }

    // The same turning ring from each init: bad is where latch 0 is on and the others are not looked at.
    private static void startsAtInit() {
        Shapes.each((inputs, latches) -> {
            for (int init = 1; init < 1 << latches; init++) {
                InductChecker x = new InductChecker(inputs, latches);
                for (int j = 0; j < latches; j++) {
                    x.setLatch(j, Circuits.latch(x, (j + 1) % latches), init >> j & 1);
                }
                x.setBad(Circuits.latch(x, 0));
                int turns = Integer.numberOfTrailingZeros(init);
                int[] states = new int[turns + 1];
                for (int t = 0; t <= turns; t++) {
                    states[t] = init >> t;
                }
                trace(x, times(turns + 1, 0), states);
            }
        });
    }

    // The latch would turn back at once: the state of the last step is the one before that.
    private static void lastVectorMovesNothing() {
        Shapes.each((inputs, latches) -> {
            InductChecker x = new InductChecker(inputs, latches);
            x.setLatch(0, Circuits.latch(x, 0) + 1, 0);
            x.setBad(Circuits.latch(x, 0));
            trace(x, times(2, 0), new int[] {0, 1});
        });
    }

    private static void badNeedsTheLastVector() {
        Shapes.each((inputs, latches) -> {
            for (int vector = 0; vector < 1 << inputs; vector++) {
                InductChecker x = new InductChecker(inputs, latches);
                x.setLatch(0, 1, 0);
                x.setBad(x.addAnd(Circuits.vectorIs(x, vector), Circuits.latch(x, 0)));
                trace(x, new int[] {0, vector}, new int[] {0, 1});
            }
        });
    }

    // (0, 0, 0) is bad after two steps, (7, 0) after one: the shorter is kept though its vector is greater.
    private static void leastLength() {
        for (int inputs = 1; inputs <= 3; inputs++) {
            for (int vector = 1; vector < 1 << inputs; vector++) {
                InductChecker x = new InductChecker(inputs, 2);
                int first = Circuits.latch(x, 0);
                x.setLatch(0, 1, 0);
                x.setLatch(1, Circuits.or(x, Circuits.vectorIs(x, vector), first), 0);
                x.setBad(Circuits.latch(x, 1));
                trace(x, new int[] {vector, 0}, new int[] {0, 3});
                x.setLatch(1, first, 0);
                trace(x, new int[] {0, 0, 0}, new int[] {0, 1, 3});
            }
        }
    }

    /** Vector a goes to latch 0, where c is bad; vector b goes to latch 1, where e is bad. */
    private static InductChecker twoWays(int inputs, int a, int c, int b, int e) {
        InductChecker x = new InductChecker(inputs, 2);
        x.setLatch(0, Circuits.vectorIs(x, a), 0);
        x.setLatch(1, Circuits.vectorIs(x, b), 0);
        int bad0 = x.addAnd(Circuits.vectorIs(x, c), Circuits.latch(x, 0));
        int bad1 = x.addAnd(Circuits.vectorIs(x, e), Circuits.latch(x, 1));
        x.setBad(Circuits.or(x, bad0, bad1));
        return x;
    }

    private static void firstVectorFirst() {
        for (int inputs = 1; inputs <= 3; inputs++) {
            int vectors = 1 << inputs;
            for (int number = 0; number < vectors * vectors * vectors * vectors; number++) {
                int a = number % vectors;
                int c = number / vectors % vectors;
                int b = number / vectors / vectors % vectors;
                int e = number / vectors / vectors / vectors;
                if (a != b) {
                    InductChecker x = twoWays(inputs, a, c, b, e);
                    trace(x, a < b ? new int[] {a, c} : new int[] {b, e}, new int[] {0, a < b ? 1 : 2});
                }
            }
        }
    }

    private static void laterVectorsNext() {
        for (int inputs = 1; inputs <= 3; inputs++) {
            int vectors = 1 << inputs;
            for (int number = 0; number < vectors * vectors * vectors; number++) {
                int a = number % vectors;
                int c = number / vectors % vectors;
                int e = number / vectors / vectors;
                InductChecker x = twoWays(inputs, a, c, a, e);
                trace(x, new int[] {a, Math.min(c, e)}, new int[] {0, 3});
            }
        }
    }

    // Every set of vectors is bad at once, or lets the latch go on, in turn: the least of the set is due.
    private static void comparedAsNumbers() {
        for (int inputs = 0; inputs <= 3; inputs++) {
            for (int table = 1; table < 1 << (1 << inputs); table++) {
                int least = Integer.numberOfTrailingZeros(table);
                InductChecker x = new InductChecker(inputs, 1);
                int some = Circuits.vectorIsIn(x, inputs, table);
                x.setBad(some);
                trace(x, new int[] {least}, new int[] {0});
                x.setLatch(0, some, 0);
                x.setBad(Circuits.latch(x, 0));
                trace(x, new int[] {least, 0}, new int[] {0, 1});
            }
        }
    }

    private static void longest() {
        Shapes.each((inputs, latches) -> {
            int states = 1 << latches;
            trace(Circuits.counter(inputs, latches), times(states, (1 << inputs) - 1), countingUp(states));
            trace(Circuits.freeCounter(inputs, latches), times(states, 0), countingUp(states));
        });
    }

    private static void safe(InductChecker x) {
        Due.is("check()", x.check(), 1);
        Due.is("getTraceLength()", x.getTraceLength(), -1);
        Due.is("getTraceInputs(0)", x.getTraceInputs(0), -1);
        Due.is("getTraceState(0)", x.getTraceState(0), -1);
    }

    private static void none() {
        Shapes.each((inputs, latches) -> {
            InductChecker keeps = new InductChecker(inputs, latches);
            keeps.setBad(Circuits.latch(keeps, latches - 1));
            safe(keeps);
            InductChecker never = new InductChecker(inputs, latches);
            never.setBad(never.addAnd(Circuits.latch(never, 0), Circuits.latch(never, 0) + 1));
            safe(never);
            // The counter goes round without its last latch, so it never comes to the bad state.
            InductChecker held = Circuits.counter(inputs, latches);
            held.setLatch(latches - 1, 0, 0);
            safe(held);
        });
        // The two latches always agree, so the bad state stands beside those that can be reached.
        InductChecker twins = new InductChecker(1, 2);
        twins.setLatch(0, 2, 0);
        twins.setLatch(1, 2, 0);
        twins.setBad(twins.addAnd(4, 7));
        safe(twins);
    }
}
