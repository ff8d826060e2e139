import java.util.List;

/** Promises 4 and 16. */
public final class SetBadTest {
    public static void main(String[] args) {
        stores();
        wrongLiterals();
        discardsTheResult();
        Due.end();
    }

    private static void stores() {
        InductChecker x = new InductChecker(2, 3);
        x.setLatch(1, 4, 1);
        x.addAnd(2, 5);
        List<Integer> latches = List.of(x.getLatchNext(0), x.getLatchInit(0), x.getLatchNext(1),
            x.getLatchInit(1), x.getLatchNext(2), x.getLatchInit(2), x.getGateCount());
        Due.is("getBadLit()", x.getBadLit(), 0);
        for (int lit = 13; lit >= 0; lit--) {
            Due.is("setBad(" + lit + ")", x.setBad(lit), true);
            Due.is("getBadLit()", x.getBadLit(), lit);
            Due.is("setBad(" + lit + ") again", x.setBad(lit), true);
            Due.is("getBadLit()", x.getBadLit(), lit);
        }
        Due.is("setBad leaves the rest", List.of(x.getLatchNext(0), x.getLatchInit(0), x.getLatchNext(1),
            x.getLatchInit(1), x.getLatchNext(2), x.getLatchInit(2), x.getGateCount()).equals(latches), true);
    }

    private static void wrongLiterals() {
        InductChecker x = Circuits.follower();
        x.check();
        List<Integer> before = Snapshot.whole(x);
        for (int lit : new int[] {-1, -2, 6, 7, 100, Integer.MIN_VALUE, Integer.MAX_VALUE}) {
            Due.is("setBad(" + lit + ")", x.setBad(lit), false);
            Due.is("a refused setBad changes nothing", Snapshot.whole(x).equals(before), true);
        }
        Due.is("addAnd(2, 4)", x.addAnd(2, 4), 6);
        Due.is("setBad(7)", x.setBad(7), true);
        Due.is("setBad(8)", x.setBad(8), false);
        Due.is("getBadLit()", x.getBadLit(), 7);
    }

    private static void discardsTheResult() {
        InductChecker x = Circuits.follower();
        Due.is("check()", x.check(), 2);
        Due.is("setBad(4): as before", x.setBad(4), true);
        Due.is("getResult()", x.getResult(), 0);
        Due.is("getTraceLength()", x.getTraceLength(), -1);
        Due.is("getTraceInputs(0)", x.getTraceInputs(0), -1);
        Due.is("getTraceState(0)", x.getTraceState(0), -1);
        Due.is("setBad(0)", x.setBad(0), true);
        Due.is("check()", x.check(), 1);
        Due.is("setBad(0): as before", x.setBad(0), true);
        Due.is("getResult()", x.getResult(), 0);
    }
}
