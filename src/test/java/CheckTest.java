import java.util.List;

/** Promise 5, with THE TRACE that promises 7, 8 and 9 read. */
public final class CheckTest {
    public static void main(String[] args) {
        badAtOnce();
        badNeedsInputsAtTheEnd();
        leastLengthComesFirst();
        leastFirstInputComesFirst();
        longestTrace();
        notReachable();
        initCounts();
        againAndUnchanged();
        Due.end();
    }

    private static void trace(InductChecker x, int[] inputs, int[] states) {
        int d = inputs.length - 1;
        Due.is("check()", x.check(), 2);
        Due.is("getResult()", x.getResult(), 2);
        Due.is("getTraceLength()", x.getTraceLength(), d);
        for (int step = 0; step <= d; step++) {
            Due.is("getTraceInputs(" + step + ")", x.getTraceInputs(step), inputs[step]);
            Due.is("getTraceState(" + step + ")", x.getTraceState(step), states[step]);
        }
        Due.is("getTraceInputs(d + 1)", x.getTraceInputs(d + 1), -1);
        Due.is("getTraceState(d + 1)", x.getTraceState(d + 1), -1);
    }

    private static void safe(InductChecker x) {
        Due.is("check()", x.check(), 1);
        Due.is("getResult()", x.getResult(), 1);
        Due.is("getTraceLength()", x.getTraceLength(), -1);
        Due.is("getTraceInputs(0)", x.getTraceInputs(0), -1);
        Due.is("getTraceState(0)", x.getTraceState(0), -1);
    }

    private static void badAtOnce() {
        InductChecker x = new InductChecker(3, 4);
        x.setLatch(1, 10, 1);
        x.setLatch(3, 14, 1);
        x.setBad(1);
        trace(x, new int[] {0}, new int[] {10});
    }

    private static void badNeedsInputsAtTheEnd() {
        InductChecker x = new InductChecker(3, 1);
        x.setBad(6);
        trace(x, new int[] {4}, new int[] {0});
        x.setBad(x.addAnd(6, 2));
        trace(x, new int[] {5}, new int[] {0});
        x.setBad(x.addAnd(10, 4));
        trace(x, new int[] {7}, new int[] {0});
    }

    // Input 0 at first leads to the bad state in two steps, input 1 in one.
    private static void leastLengthComesFirst() {
        InductChecker x = new InductChecker(1, 2);
        int slow = x.addAnd(3, 5);
        x.setLatch(0, slow, 0);
        int later = x.addAnd(3, 4);
        int either = x.addAnd(3, later ^ 1) ^ 1;
        x.setLatch(1, either, 0);
        x.setBad(6);
        trace(x, new int[] {1, 0}, new int[] {0, 2});
    }

    // (0, 3, 0) and (1, 0, 0) both reach the bad state in two steps: the first input decides.
    private static void leastFirstInputComesFirst() {
        InductChecker x = new InductChecker(2, 3);
        int first = 6;
        int second = 8;
        int none = x.addAnd(3, 5);
        int one = x.addAnd(2, 5);
        int three = x.addAnd(2, 4);
        int start = x.addAnd(first ^ 1, second ^ 1);
        x.setLatch(0, x.addAnd(start, none), 0);
        x.setLatch(1, x.addAnd(start, one), 0);
        int viaFirst = x.addAnd(first, three);
        int viaSecond = x.addAnd(second, none);
        x.setLatch(2, x.addAnd(viaFirst ^ 1, viaSecond ^ 1) ^ 1, 0);
        x.setBad(10);
        trace(x, new int[] {0, 3, 0}, new int[] {0, 1, 4});
    }

    private static void longestTrace() {
        int[] states = new int[16];
        for (int step = 0; step < 16; step++) {
            states[step] = step;
        }
        for (int inputs = 0; inputs <= 3; inputs++) {
            trace(Circuits.counterTo15(inputs), new int[16], states);
        }
    }

    private static void notReachable() {
        safe(new InductChecker(3, 4));
        InductChecker keeps = new InductChecker(3, 4);
        keeps.setBad(14);
        safe(keeps);
        InductChecker never = new InductChecker(2, 2);
        never.setBad(never.addAnd(2, 3));
        safe(never);
        // The two latches always agree, so the bad state 1 stands beside those that can be reached.
        InductChecker twins = new InductChecker(1, 2);
        twins.setLatch(0, 2, 0);
        twins.setLatch(1, 2, 0);
        twins.setBad(twins.addAnd(4, 7));
        safe(twins);
        InductChecker counter = Circuits.counterTo15(0);
        counter.setLatch(3, 0, 0);
        safe(counter);
    }

    private static void initCounts() {
        InductChecker x = new InductChecker(1, 1);
        x.setLatch(0, 4, 1);
        x.setBad(5);
        safe(x);
        x.setLatch(0, 4, 0);
        trace(x, new int[] {0}, new int[] {0});
        x.setLatch(0, 3, 1);
        trace(x, new int[] {1, 0}, new int[] {1, 0});
    }

    private static void againAndUnchanged() {
        InductChecker[] circuits = {Circuits.follower(), Circuits.counterTo15(1), new InductChecker(2, 3)};
        for (InductChecker x : circuits) {
            List<Integer> before = Snapshot.circuit(x);
            int result = x.check();
            Due.is("check leaves the circuit", Snapshot.circuit(x).equals(before), true);
            List<Integer> outcome = Snapshot.outcome(x);
            Due.is("check() again", x.check(), result);
            Due.is("check() again keeps the outcome", Snapshot.outcome(x).equals(outcome), true);
            Due.is("check() again leaves the circuit", Snapshot.circuit(x).equals(before), true);
        }
        // A shorter trace after a longer one shows nothing of the longer one.
        InductChecker x = Circuits.counterTo15(0);
        x.check();
        x.setBad(2);
        trace(x, new int[] {0, 0}, new int[] {0, 1});
        x.setBad(0);
        safe(x);
    }
}
