import java.util.ArrayList;
import java.util.List;
import java.util.Random;

/** Promise 5; which trace is THE TRACE is tested by CounterexampleTest and BruteForceTest. */
public final class CheckTest {
    public static void main(String[] args) {
        Due.sentence("Promise 5: If a counterexample exists, the result becomes UNSAFE and THE TRACE is stored",
            CheckTest::unsafe);
        Due.sentence("Promise 5: otherwise the result becomes SAFE and no trace is stored", CheckTest::safe);
        Due.sentence("Promise 5: decides the system as it now stands", CheckTest::asItStands);
        Due.sentence("Promise 5: The answer is the new result (SAFE or UNSAFE)", CheckTest::answer);
        Due.sentence("Promise 5: It is never refused", CheckTest::neverRefused);
        Due.sentence("Promise 5: calling it again without edits gives the same result and the same trace",
            CheckTest::again);
        Due.sentence("Promise 5: The circuit itself does not change", CheckTest::leavesTheCircuit);
        Due.sentence("Promise 5: UNSAFE: 0 <= d < 2^L", CheckTest::lengthInRange);
        Due.sentence("Promise 5: UNSAFE: bit j of getTraceState(0) equals getLatchInit(j)", CheckTest::startsAtInit);
        Due.sentence("Promise 5: UNSAFE: bit j of getTraceState(t+1) equals evalLit(getLatchNext(j), ..)",
            CheckTest::statesFollow);
        Due.sentence("Promise 5: UNSAFE: every getTraceInputs(t) lies in 0..2^I-1", CheckTest::inputsInRange);
        Due.sentence("Promise 5: UNSAFE: evalLit(getBadLit(), ..) is 1 at d", CheckTest::badAtTheEnd);
        Due.sentence("Promise 5: SAFE: evalLit(getBadLit(), s_d, x_d) is 0 for every d and all vectors",
            CheckTest::safeEverywhere);
        Due.end();
    }

    private static void unsafe() {
        Shapes.each((inputs, latches) -> {
            int d = (1 << latches) - 1;
            InductChecker x = Circuits.counter(inputs, latches);
            x.check();
            Due.is("getResult()", x.getResult(), 2);
            Due.is("getTraceLength()", x.getTraceLength(), d);
            for (int t = 0; t <= d; t++) {
                Due.is("getTraceInputs(" + t + ")", x.getTraceInputs(t), (1 << inputs) - 1);
                Due.is("getTraceState(" + t + ")", x.getTraceState(t), t);
            }
        });
    }

    private static void isSafe(InductChecker x) {
        x.check();
        Due.is("getResult()", x.getResult(), 1);
        Due.is("getTraceLength()", x.getTraceLength(), -1);
        for (int step = -1; step <= 17; step++) {
            Due.is("getTraceInputs(" + step + ")", x.getTraceInputs(step), -1);
            Due.is("getTraceState(" + step + ")", x.getTraceState(step), -1);
        }
    }

    private static void safe() {
        Shapes.each((inputs, latches) -> {
            isSafe(new InductChecker(inputs, latches));
            // After the longest trace there is, nothing of it is left.
            InductChecker x = Circuits.counter(inputs, latches);
            x.check();
            x.setBad(0);
            isSafe(x);
        });
    }

    private static void asItStands() {
        Shapes.each((inputs, latches) -> {
            InductChecker x = Circuits.counter(inputs, latches);
            Due.is("check()", x.check(), 2);
            Due.is("getTraceLength()", x.getTraceLength(), (1 << latches) - 1);
            int bad = x.getBadLit();
            x.setBad(Circuits.latch(x, 0));
            Due.is("check() after a setBad", x.check(), 2);
            Due.is("getTraceLength()", x.getTraceLength(), 1);
            Due.is("getTraceState(2)", x.getTraceState(2), -1);
            x.setBad(bad);
            for (int j = 0; j < latches; j++) {
                x.setLatch(j, x.getLatchNext(j), 1);
            }
            Due.is("check() after setLatch", x.check(), 2);
            Due.is("getTraceLength()", x.getTraceLength(), 0);
            Due.is("getTraceState(0)", x.getTraceState(0), (1 << latches) - 1);
            x.setBad(x.addAnd(bad, bad ^ 1));
            Due.is("check() after addAnd", x.check(), 1);
        });
        zerosReplaceTheOldTrace();
    }

    // The counter goes over from its last state to 0, where the longest trace had another state and vector.
    private static void zerosReplaceTheOldTrace() {
        Shapes.each((inputs, latches) -> {
            InductChecker x = Circuits.counter(inputs, latches);
            x.check();
            for (int j = 0; j < latches; j++) {
                x.setLatch(j, x.getLatchNext(j), 1);
            }
            x.setBad(Circuits.latch(x, 0) + 1);
            Due.is("check()", x.check(), 2);
            Due.is("getTraceLength()", x.getTraceLength(), 1);
            Due.is("getTraceState(0)", x.getTraceState(0), (1 << latches) - 1);
            Due.is("getTraceState(1)", x.getTraceState(1), 0);
            Due.is("getTraceInputs(0)", x.getTraceInputs(0), (1 << inputs) - 1);
            Due.is("getTraceInputs(1)", x.getTraceInputs(1), 0);
        });
    }

    private static void answer() {
        for (InductChecker x : family()) {
            int answer = x.check();
            Due.is("check() is SAFE or UNSAFE", answer == 1 || answer == 2, true);
            Due.is("getResult()", x.getResult(), answer);
        }
    }

    private static void neverRefused() {
        Shapes.each((inputs, latches) -> {
            Due.is("check() of a fresh object", new InductChecker(inputs, latches).check(), 1);
            for (int gates : new int[] {0, 15, 16}) {
                int[] due = {2, 2, 1, 2};
                InductChecker[] all = Circuits.inEveryResult(inputs, latches, gates);
                for (int k = 0; k < all.length; k++) {
                    all[k].addAnd(-1, -1);
                    all[k].setLatch(-1, -1, -1);
                    all[k].setBad(-1);
                    Due.is("check() after refused calls", all[k].check(), due[k]);
                }
            }
        });
    }

    private static void again() {
        for (InductChecker x : family()) {
            int answer = x.check();
            Snapshot outcome = Snapshot.outcome(x);
            for (int time = 0; time < 3; time++) {
                Due.is("check() again", x.check(), answer);
                Due.is("the same trace", Snapshot.outcome(x).isSameAs(outcome), true);
            }
        }
    }

    private static void leavesTheCircuit() {
        for (InductChecker x : family()) {
            Snapshot circuit = Snapshot.circuit(x);
            x.check();
            Due.is("the circuit is as before", Snapshot.circuit(x).isSameAs(circuit), true);
            x.check();
            Due.is("the circuit is as before", Snapshot.circuit(x).isSameAs(circuit), true);
        }
    }

    /** Circuits of every shape: those at the ends of the promise, and many without a plan. */
    private static List<InductChecker> family() {
        List<InductChecker> all = new ArrayList<>();
        // The seed is fixed, so that every run of this test is the same.
        Random random = new Random(5);
        Shapes.each((inputs, latches) -> {
            all.add(new InductChecker(inputs, latches));
            all.add(Circuits.counter(inputs, latches));
            all.add(Circuits.freeCounter(inputs, latches));
            all.addAll(List.of(Circuits.inEveryResult(inputs, latches, 16)));
            for (int count = 0; count < 60; count++) {
                all.add(Circuits.random(random, inputs, latches));
            }
        });
        return all;
    }

    private static List<InductChecker> withResult(int result) {
        List<InductChecker> all = family();
        all.removeIf(x -> x.check() != result);
        Due.is("there are many of result " + result, all.size() > 200, true);
        return all;
    }

    private static void lengthInRange() {
        for (InductChecker x : withResult(2)) {
            int d = x.getTraceLength();
            Due.is("getTraceLength() " + d + " is in range", d >= 0 && d < 1 << x.getLatchCount(), true);
        }
    }

    private static void startsAtInit() {
        for (InductChecker x : withResult(2)) {
            for (int j = 0; j < x.getLatchCount(); j++) {
                Due.is("bit " + j + " of getTraceState(0)", x.getTraceState(0) >> j & 1, x.getLatchInit(j));
            }
            Due.is("no bit beyond", x.getTraceState(0) >> x.getLatchCount(), 0);
        }
    }

    private static int nextState(InductChecker x, int state, int inputs) {
        int next = 0;
        for (int j = 0; j < x.getLatchCount(); j++) {
            next |= x.evalLit(x.getLatchNext(j), state, inputs) << j;
        }
        return next;
    }

    private static void statesFollow() {
        for (InductChecker x : withResult(2)) {
            for (int t = 0; t < x.getTraceLength(); t++) {
                int due = nextState(x, x.getTraceState(t), x.getTraceInputs(t));
                Due.is("getTraceState(" + (t + 1) + ")", x.getTraceState(t + 1), due);
            }
        }
    }

    private static void inputsInRange() {
        for (InductChecker x : withResult(2)) {
            for (int t = 0; t <= x.getTraceLength(); t++) {
                int inputs = x.getTraceInputs(t);
                Due.is("getTraceInputs(" + t + ") is in range",
                    inputs >= 0 && inputs < 1 << x.getInputCount(), true);
            }
        }
    }

    private static void badAtTheEnd() {
        for (InductChecker x : withResult(2)) {
            int d = x.getTraceLength();
            Due.is("bad at " + d, x.evalLit(x.getBadLit(), x.getTraceState(d), x.getTraceInputs(d)), 1);
        }
    }

    private static void safeEverywhere() {
        for (InductChecker x : withResult(1)) {
            int init = 0;
            for (int j = 0; j < x.getLatchCount(); j++) {
                init |= x.getLatchInit(j) << j;
            }
            int reached = 1 << init;
            // Sixteen rounds are enough, as each has to reach a new one of at most sixteen states.
            for (int round = 0; round < 16; round++) {
                for (int state = 0; state < 16; state++) {
                    for (int inputs = 0; inputs < 1 << x.getInputCount() && (reached >> state & 1) == 1; inputs++) {
                        reached |= 1 << nextState(x, state, inputs);
                    }
                }
            }
            for (int state = 0; state < 16; state++) {
                for (int inputs = 0; inputs < 1 << x.getInputCount() && (reached >> state & 1) == 1; inputs++) {
                    Due.is("bad under (" + state + ", " + inputs + ")", x.evalLit(x.getBadLit(), state, inputs), 0);
                }
            }
        }
    }
}
