import java.util.ArrayList;
import java.util.List;

/** Everything that can be read from a checker, to tell whether a call changed something. */
final class Snapshot {
    private Snapshot() {
    }

    static List<Integer> circuit(InductChecker x) {
        List<Integer> all = new ArrayList<>();
        all.add(x.getInputCount());
        all.add(x.getLatchCount());
        all.add(x.getGateCount());
        all.add(x.getBadLit());
        for (int latch = -1; latch <= 4; latch++) {
            all.add(x.getLatchNext(latch));
            all.add(x.getLatchInit(latch));
        }
        for (int lit = -1; lit <= 48; lit++) {
            for (int state = 0; state < 16; state++) {
                for (int inputs = 0; inputs < 8; inputs++) {
                    all.add(x.evalLit(lit, state, inputs));
                }
            }
        }
        return all;
    }

    static List<Integer> outcome(InductChecker x) {
        List<Integer> all = new ArrayList<>();
        all.add(x.getResult());
        all.add(x.getTraceLength());
        for (int step = -1; step <= 17; step++) {
            all.add(x.getTraceInputs(step));
            all.add(x.getTraceState(step));
        }
        return all;
    }

    static List<Integer> whole(InductChecker x) {
        List<Integer> all = circuit(x);
        all.addAll(outcome(x));
        return all;
    }
}
