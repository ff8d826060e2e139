import java.util.List;

/** Promise 3, with what promises 14 and 15 say of a latch that was set. */
public final class SetLatchTest {
    public static void main(String[] args) {
        stores();
        edgesOfValidity();
        wrongArguments();
        discardsTheResult();
        Due.end();
    }

    private static void stores() {
        for (int latches = 1; latches <= 4; latches++) {
            for (int latch = 0; latch < latches; latch++) {
                InductChecker x = new InductChecker(2, latches);
                List<Integer> gatesBefore = List.of(x.getGateCount(), x.getBadLit());
                Due.is("setLatch(" + latch + ", 3, 1)", x.setLatch(latch, 3, 1), true);
                for (int other = 0; other < latches; other++) {
                    int next = other == latch ? 3 : 2 * (3 + other);
                    Due.is("getLatchNext(" + other + ")", x.getLatchNext(other), next);
                    Due.is("getLatchInit(" + other + ")", x.getLatchInit(other), other == latch ? 1 : 0);
                }
                Due.is("setLatch(" + latch + ", 0, 0)", x.setLatch(latch, 0, 0), true);
                Due.is("getLatchNext(" + latch + ")", x.getLatchNext(latch), 0);
                Due.is("getLatchInit(" + latch + ")", x.getLatchInit(latch), 0);
                Due.is("gates and bad literal stay",
                    List.of(x.getGateCount(), x.getBadLit()).equals(gatesBefore), true);
            }
        }
    }

    private static void edgesOfValidity() {
        InductChecker x = new InductChecker(0, 1);
        Due.is("setLatch(0, 3, 0)", x.setLatch(0, 3, 0), true);
        Due.is("setLatch(0, 4, 0)", x.setLatch(0, 4, 0), false);
        Due.is("addAnd(2, 3)", x.addAnd(2, 3), 4);
        Due.is("setLatch(0, 4, 0)", x.setLatch(0, 4, 0), true);
        Due.is("setLatch(0, 5, 1)", x.setLatch(0, 5, 1), true);
        Due.is("setLatch(0, 6, 1)", x.setLatch(0, 6, 1), false);
        Due.is("getLatchNext(0)", x.getLatchNext(0), 5);
        Due.is("getLatchInit(0)", x.getLatchInit(0), 1);
    }

    private static void wrongArguments() {
        for (int latches = 1; latches <= 4; latches++) {
            InductChecker x = new InductChecker(1, latches);
            x.setLatch(0, 2, 0);
            x.setBad(4);
            x.check();
            List<Integer> before = Snapshot.whole(x);
            for (int latch : new int[] {-1, latches, latches + 1, 4, 1000, Integer.MIN_VALUE, Integer.MAX_VALUE}) {
                Due.is("setLatch(" + latch + ", 0, 1)", x.setLatch(latch, 0, 1), false);
            }
            int literals = 2 * (2 + latches);
            for (int lit : new int[] {-1, literals, literals + 1, Integer.MIN_VALUE, Integer.MAX_VALUE}) {
                Due.is("setLatch(0, " + lit + ", 1)", x.setLatch(0, lit, 1), false);
            }
            for (int init : new int[] {-1, 2, 3, Integer.MIN_VALUE, Integer.MAX_VALUE}) {
                Due.is("setLatch(0, 1, " + init + ")", x.setLatch(0, 1, init), false);
            }
            Due.is("a refused setLatch changes nothing", Snapshot.whole(x).equals(before), true);
        }
    }

    private static void discardsTheResult() {
        InductChecker x = Circuits.follower();
        Due.is("check()", x.check(), 2);
        Due.is("setLatch(0, 2, 0): as before", x.setLatch(0, 2, 0), true);
        Due.is("getResult()", x.getResult(), 0);
        Due.is("getTraceLength()", x.getTraceLength(), -1);
        Due.is("getTraceInputs(0)", x.getTraceInputs(0), -1);
        Due.is("getTraceState(0)", x.getTraceState(0), -1);
        Due.is("setLatch(0, 0, 0)", x.setLatch(0, 0, 0), true);
        Due.is("check()", x.check(), 1);
        Due.is("setLatch(0, 0, 0): as before", x.setLatch(0, 0, 0), true);
        Due.is("getResult()", x.getResult(), 0);
    }
}
