/** Promises 4 and 16. */
public final class SetBadTest {
    public static void main(String[] args) {
        Due.sentence("Promise 4: If lit is not VALID, the answer is false", SetBadTest::notValid);
        Due.sentence("Promise 4: If lit is not VALID, nothing changes", SetBadTest::nothingChanges);
        Due.sentence("Promise 4: Otherwise the literal is stored, replacing the old one", SetBadTest::replaces);
        Due.sentence("Promise 4: the result becomes NONE, any trace is discarded, and the answer is true",
            SetBadTest::discards);
        Due.sentence("Promise 4: even when the value is the same as before", SetBadTest::sameValue);
        Due.sentence("Promise 4: Gates and latches do not change", SetBadTest::leavesTheRest);
        Due.sentence("Promise 16: 0 if no setBad has succeeded so far", SetBadTest::zeroBefore);
        Due.sentence("Promise 16: otherwise the lit of the latest successful setBad", SetBadTest::latest);
        Due.sentence("Promise 16: Nothing changes", () -> Reading.changesNothing(InductChecker::getBadLit));
        Due.end();
    }

    private static void notValid() {
        Shapes.each((inputs, latches) -> {
            for (int gates = 0; gates <= 16; gates++) {
                InductChecker x = Circuits.follower(inputs, latches, gates);
                for (int lit : Outside.ofLiterals(inputs, latches, gates)) {
                    Due.is("setBad(" + lit + ")", x.setBad(lit), false);
                }
            }
        });
    }

    private static void nothingChanges() {
        Shapes.each((inputs, latches) -> {
            for (int gates : new int[] {0, 16}) {
                for (InductChecker x : Circuits.inEveryResult(inputs, latches, gates)) {
                    Snapshot before = Snapshot.whole(x);
                    x.setBad(Shapes.literals(inputs, latches, gates));
                    Due.is("setBad(2V) left all", Snapshot.whole(x).isSameAs(before), true);
                    x.setBad(-1);
                    Due.is("setBad(-1) left all", Snapshot.whole(x).isSameAs(before), true);
                }
            }
        });
    }

    private static void replaces() {
        Shapes.each((inputs, latches) -> {
            for (int gates = 0; gates <= 16; gates++) {
                InductChecker x = Circuits.follower(inputs, latches, gates);
                for (int lit = Shapes.literals(inputs, latches, gates) - 1; lit >= 0; lit--) {
                    Due.is("setBad(" + lit + ")", x.setBad(lit), true);
                    Due.is("getBadLit()", x.getBadLit(), lit);
                }
            }
        });
    }

    private static void isNone(InductChecker x) {
        Due.is("getResult()", x.getResult(), 0);
        Due.is("getTraceLength()", x.getTraceLength(), -1);
        Due.is("getTraceInputs(0)", x.getTraceInputs(0), -1);
        Due.is("getTraceState(0)", x.getTraceState(0), -1);
    }

    private static void discards() {
        Shapes.each((inputs, latches) -> {
            int last = Shapes.literals(inputs, latches, 2) - 1;
            for (int lit : new int[] {0, 1, last}) {
                for (InductChecker x : Circuits.inEveryResult(inputs, latches, 2)) {
                    Due.is("setBad(" + lit + ")", x.setBad(lit), true);
                    isNone(x);
                }
            }
        });
    }

    private static void sameValue() {
        Shapes.each((inputs, latches) -> {
            for (InductChecker x : Circuits.inEveryResult(inputs, latches, 2)) {
                int lit = x.getBadLit();
                Due.is("setBad(" + lit + ") again", x.setBad(lit), true);
                Due.is("getBadLit()", x.getBadLit(), lit);
                isNone(x);
            }
            InductChecker fresh = new InductChecker(inputs, latches);
            fresh.check();
            Due.is("setBad(0), as made", fresh.setBad(0), true);
            isNone(fresh);
        });
    }

    // No bad literal was set before, so that whatever a first setBad spoils is seen.
    private static void leavesTheRest() {
        Shapes.each((inputs, latches) -> {
            int last = Shapes.literals(inputs, latches, 16) - 1;
            InductChecker x = Circuits.withGates(inputs, latches, 16);
            for (int j = 0; j < latches; j++) {
                x.setLatch(j, last - j, 1);
            }
            Snapshot before = Snapshot.circuit(x);
            x.setBad(last);
            x.setBad(1);
            x.setBad(0);
            Due.is("all but the bad literal is left", Snapshot.circuit(x).isSameAs(before), true);
        });
    }

    private static void zeroBefore() {
        Shapes.each((inputs, latches) -> {
            InductChecker x = new InductChecker(inputs, latches);
            Due.is("getBadLit()", x.getBadLit(), 0);
            x.setBad(-1);
            x.setBad(Shapes.literals(inputs, latches, 0));
            x.setBad(Integer.MAX_VALUE);
            x.addAnd(1, 1);
            x.setLatch(0, 1, 1);
            x.check();
            Due.is("getBadLit()", x.getBadLit(), 0);
        });
    }

    private static void latest() {
        Shapes.each((inputs, latches) -> {
            InductChecker x = new InductChecker(inputs, latches);
            for (int gate = 0; gate <= 16; gate++) {
                int literals = Shapes.literals(inputs, latches, gate);
                x.setBad(1);
                x.setBad(literals - 1);
                x.setBad(literals);
                x.setBad(-1);
                Due.is("getBadLit()", x.getBadLit(), literals - 1);
                x.addAnd(0, 0);
                x.setLatch(0, 0, 0);
                x.check();
                Due.is("getBadLit()", x.getBadLit(), literals - 1);
            }
        });
    }
}
