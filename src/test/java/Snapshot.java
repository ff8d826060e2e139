import java.util.Arrays;

/** Everything that can be read from a checker, to tell whether a call changed something. */
final class Snapshot {
    private final int[] all = new int[7000];
    private int count = 0;

    private Snapshot() {
    }

    static Snapshot circuit(InductChecker x) {
        Snapshot snapshot = new Snapshot();
        snapshot.addCircuit(x);
        return snapshot;
    }

    static Snapshot outcome(InductChecker x) {
        Snapshot snapshot = new Snapshot();
        snapshot.addOutcome(x);
        return snapshot;
    }

    static Snapshot whole(InductChecker x) {
        Snapshot snapshot = new Snapshot();
        // The outcome comes first, so that a read of the circuit which spoils it is seen by the next snapshot.
        snapshot.addOutcome(x);
        snapshot.addCircuit(x);
        return snapshot;
    }

    boolean isSameAs(Snapshot other) {
        return count == other.count && Arrays.equals(all, other.all);
    }

    private void add(int value) {
        all[count] = value;
        count++;
    }

    private void addCircuit(InductChecker x) {
        add(x.getInputCount());
        add(x.getLatchCount());
        add(x.getGateCount());
        add(x.getBadLit());
        for (int latch = -1; latch <= 4; latch++) {
            add(x.getLatchNext(latch));
            add(x.getLatchInit(latch));
        }
        for (int lit = -1; lit <= 48; lit++) {
            for (int state = 0; state < 16; state++) {
                for (int inputs = 0; inputs < 8; inputs++) {
                    add(x.evalLit(lit, state, inputs));
                }
            }
        }
    }

    private void addOutcome(InductChecker x) {
        add(x.getResult());
        add(x.getTraceLength());
        for (int step = -1; step <= 17; step++) {
            add(x.getTraceInputs(step));
            add(x.getTraceState(step));
        }
    }
}
