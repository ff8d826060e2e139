import java.util.List;

/** Promises 6 to 9 and 11 to 16: what can be read, when it is refused, and that reading changes nothing. */
public final class ReadTest {
    public static void main(String[] args) {
        result();
        traceSteps();
        traceIsRefusedUnlessUnsafe();
        latches();
        counts();
        readingChangesNothing();
        Due.end();
    }

    private static void result() {
        InductChecker x = Circuits.follower();
        Due.is("getResult()", x.getResult(), 0);
        x.check();
        Due.is("getResult()", x.getResult(), 2);
        x.setBad(99);
        x.setLatch(7, 0, 0);
        x.addAnd(-1, 0);
        Due.is("getResult() after refused edits", x.getResult(), 2);
        x.setBad(0);
        Due.is("getResult()", x.getResult(), 0);
        x.setBad(99);
        Due.is("getResult() after a refused edit", x.getResult(), 0);
        x.check();
        Due.is("getResult()", x.getResult(), 1);
        x.setBad(-1);
        Due.is("getResult() after a refused edit", x.getResult(), 1);
    }

    private static void traceSteps() {
        InductChecker x = Circuits.follower();
        x.check();
        Due.is("getTraceLength()", x.getTraceLength(), 1);
        Due.is("getTraceInputs(0)", x.getTraceInputs(0), 1);
        Due.is("getTraceInputs(1)", x.getTraceInputs(1), 0);
        Due.is("getTraceState(0)", x.getTraceState(0), 0);
        Due.is("getTraceState(1)", x.getTraceState(1), 1);
        for (int step : new int[] {-1, 2, 3, 15, 16, 17, Integer.MIN_VALUE, Integer.MAX_VALUE}) {
            Due.is("getTraceInputs(" + step + ")", x.getTraceInputs(step), -1);
            Due.is("getTraceState(" + step + ")", x.getTraceState(step), -1);
        }
        InductChecker longest = Circuits.counterTo15(0);
        longest.check();
        Due.is("getTraceLength()", longest.getTraceLength(), 15);
        Due.is("getTraceInputs(15)", longest.getTraceInputs(15), 0);
        Due.is("getTraceState(15)", longest.getTraceState(15), 15);
        Due.is("getTraceInputs(16)", longest.getTraceInputs(16), -1);
        Due.is("getTraceState(16)", longest.getTraceState(16), -1);
    }

    private static void traceIsRefusedUnlessUnsafe() {
        InductChecker none = Circuits.follower();
        InductChecker edited = Circuits.follower();
        edited.check();
        edited.setBad(4);
        InductChecker safe = Circuits.follower();
        safe.check();
        safe.setBad(0);
        safe.check();
        for (InductChecker x : new InductChecker[] {none, edited, safe}) {
            Due.is("getTraceLength()", x.getTraceLength(), -1);
            for (int step : new int[] {Integer.MIN_VALUE, -1, 0, 1, 2, 16, Integer.MAX_VALUE}) {
                Due.is("getTraceInputs(" + step + ")", x.getTraceInputs(step), -1);
                Due.is("getTraceState(" + step + ")", x.getTraceState(step), -1);
            }
        }
    }

    private static void latches() {
        for (int inputs = 0; inputs <= 3; inputs++) {
            for (int count = 1; count <= 4; count++) {
                InductChecker x = new InductChecker(inputs, count);
                for (int latch : new int[] {-1, count, count + 1, 4, Integer.MIN_VALUE, Integer.MAX_VALUE}) {
                    Due.is("getLatchNext(" + latch + ")", x.getLatchNext(latch), -1);
                    Due.is("getLatchInit(" + latch + ")", x.getLatchInit(latch), -1);
                }
                for (int latch = 0; latch < count; latch++) {
                    Due.is("getLatchNext(" + latch + ")", x.getLatchNext(latch), 2 * (1 + inputs + latch));
                    Due.is("getLatchInit(" + latch + ")", x.getLatchInit(latch), 0);
                    x.setLatch(latch, latch & 1, 1);
                    x.setLatch(latch, 1, 2);
                    Due.is("getLatchNext(" + latch + ")", x.getLatchNext(latch), latch & 1);
                    Due.is("getLatchInit(" + latch + ")", x.getLatchInit(latch), 1);
                }
            }
        }
    }

    private static void counts() {
        InductChecker x = new InductChecker(2, 3);
        for (int gate = 0; gate < 18; gate++) {
            Due.is("getGateCount()", x.getGateCount(), Math.min(gate, 16));
            Due.is("getInputCount()", x.getInputCount(), 2);
            Due.is("getLatchCount()", x.getLatchCount(), 3);
            Due.is("getBadLit()", x.getBadLit(), 0);
            x.addAnd(99, 0);
            x.addAnd(0, 1);
        }
    }

    private static void readingChangesNothing() {
        InductChecker safe = new InductChecker(1, 2);
        safe.check();
        InductChecker unsafe = Circuits.counterTo15(2);
        unsafe.check();
        InductChecker none = Circuits.follower();
        for (InductChecker x : new InductChecker[] {safe, unsafe, none}) {
            List<Integer> before = Snapshot.whole(x);
            Due.is("reading changes nothing", Snapshot.whole(x).equals(before), true);
        }
    }
}
