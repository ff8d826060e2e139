import java.util.List;

/** Promise 2. */
public final class AddAndTest {
    public static void main(String[] args) {
        answers();
        validityBeforeTheGate();
        wrongLiterals();
        sixteenGates();
        discardsTheResult();
        leavesTheRest();
        Due.end();
    }

    private static void answers() {
        for (int inputs = 0; inputs <= 3; inputs++) {
            for (int latches = 1; latches <= 4; latches++) {
                InductChecker x = new InductChecker(inputs, latches);
                for (int gate = 0; gate < 16; gate++) {
                    int due = 2 * (1 + inputs + latches + gate);
                    Due.is("addAnd(" + (due - 1) + ", 1)", x.addAnd(due - 1, 1), due);
                    Due.is("getGateCount()", x.getGateCount(), gate + 1);
                }
            }
        }
    }

    private static void validityBeforeTheGate() {
        InductChecker x = new InductChecker(1, 1);
        Due.is("addAnd(6, 0): itself", x.addAnd(6, 0), -1);
        Due.is("addAnd(0, 6): itself", x.addAnd(0, 6), -1);
        Due.is("addAnd(7, 7): itself", x.addAnd(7, 7), -1);
        Due.is("addAnd(5, 5)", x.addAnd(5, 5), 6);
        Due.is("addAnd(7, 6): the earlier gate", x.addAnd(7, 6), 8);
        Due.is("addAnd(10, 0)", x.addAnd(10, 0), -1);
        Due.is("addAnd(0, 11)", x.addAnd(0, 11), -1);
        Due.is("addAnd(9, 9)", x.addAnd(9, 9), 10);
    }

    private static void wrongLiterals() {
        int[] wrong = {-1, -2, Integer.MIN_VALUE, 6, 7, 1000, Integer.MAX_VALUE};
        InductChecker x = Circuits.follower();
        x.check();
        List<Integer> before = Snapshot.whole(x);
        for (int lit : wrong) {
            Due.is("addAnd(" + lit + ", 0)", x.addAnd(lit, 0), -1);
            Due.is("addAnd(0, " + lit + ")", x.addAnd(0, lit), -1);
            Due.is("addAnd(" + lit + ", " + lit + ")", x.addAnd(lit, lit), -1);
            Due.is("a refused addAnd changes nothing", Snapshot.whole(x).equals(before), true);
        }
    }

    private static void sixteenGates() {
        InductChecker x = new InductChecker(3, 4);
        for (int gate = 0; gate < 16; gate++) {
            Due.is("addAnd(2, 4)", x.addAnd(2, 4), 16 + 2 * gate);
        }
        x.setBad(46);
        x.check();
        List<Integer> before = Snapshot.whole(x);
        Due.is("seventeenth addAnd(2, 4)", x.addAnd(2, 4), -1);
        Due.is("seventeenth addAnd(-1, 99)", x.addAnd(-1, 99), -1);
        Due.is("getGateCount()", x.getGateCount(), 16);
        Due.is("a refused addAnd changes nothing", Snapshot.whole(x).equals(before), true);
    }

    private static void discardsTheResult() {
        InductChecker x = Circuits.follower();
        Due.is("check()", x.check(), 2);
        Due.is("addAnd(0, 0)", x.addAnd(0, 0), 6);
        Due.is("getResult()", x.getResult(), 0);
        Due.is("getTraceLength()", x.getTraceLength(), -1);
        Due.is("getTraceInputs(0)", x.getTraceInputs(0), -1);
        Due.is("getTraceState(0)", x.getTraceState(0), -1);
        x.setBad(0);
        Due.is("check()", x.check(), 1);
        Due.is("addAnd(1, 1)", x.addAnd(1, 1), 8);
        Due.is("getResult()", x.getResult(), 0);
    }

    private static void leavesTheRest() {
        InductChecker x = new InductChecker(2, 2);
        x.setLatch(0, 5, 1);
        x.setLatch(1, 2, 0);
        x.addAnd(3, 8);
        x.setBad(11);
        Due.is("addAnd(10, 5)", x.addAnd(10, 5), 12);
        Due.is("getLatchNext(0)", x.getLatchNext(0), 5);
        Due.is("getLatchInit(0)", x.getLatchInit(0), 1);
        Due.is("getLatchNext(1)", x.getLatchNext(1), 2);
        Due.is("getLatchInit(1)", x.getLatchInit(1), 0);
        Due.is("getBadLit()", x.getBadLit(), 11);
        for (int state = 0; state < 4; state++) {
            for (int inputs = 0; inputs < 4; inputs++) {
                int first = (inputs & 1) == 0 && (state & 2) != 0 ? 1 : 0;
                int second = first == 1 && (inputs & 2) == 0 ? 1 : 0;
                Due.is("evalLit(10, " + state + ", " + inputs + ")", x.evalLit(10, state, inputs), first);
                Due.is("evalLit(12, " + state + ", " + inputs + ")", x.evalLit(12, state, inputs), second);
            }
        }
    }
}
