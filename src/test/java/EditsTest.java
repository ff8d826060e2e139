/** 'Edits': what every successful edit does, and what no refused call does. */
public final class EditsTest {
    public static void main(String[] args) {
        Due.sentence("Edits: Every successful addAnd sets the result to NONE and discards any stored trace",
            () -> discards(EditsTest::addsGate));
        Due.sentence("Edits: Every successful setLatch sets the result to NONE and discards any stored trace",
            () -> discards(EditsTest::setsLatch));
        Due.sentence("Edits: Every successful setBad sets the result to NONE and discards any stored trace",
            () -> discards(EditsTest::setsBad));
        Due.sentence("Edits: A refused call changes nothing at all: addAnd", () -> changesNothing(EditsTest::wrongAnds));
        Due.sentence("Edits: A refused call changes nothing at all: setLatch",
            () -> changesNothing(EditsTest::wrongLatches));
        Due.sentence("Edits: A refused call changes nothing at all: setBad", () -> changesNothing(EditsTest::wrongBads));
        Due.sentence("Edits: A refused call changes nothing at all: evalLit",
            () -> changesNothing(EditsTest::wrongLiterals));
        Due.sentence("Edits: A refused call changes nothing at all: the calls that read",
            () -> changesNothing(EditsTest::wrongReads));
        Due.end();
    }

    private interface Calls {
        void on(InductChecker x);
    }

    private static void discards(Calls edit) {
        Shapes.each((inputs, latches) -> {
            for (int gates : new int[] {0, 1, 15}) {
                for (InductChecker x : Circuits.inEveryResult(inputs, latches, gates)) {
                    edit.on(x);
                    Due.is("getResult()", x.getResult(), 0);
                    Due.is("getTraceLength()", x.getTraceLength(), -1);
                    for (int step = -1; step <= 17; step++) {
                        Due.is("getTraceInputs(" + step + ")", x.getTraceInputs(step), -1);
                        Due.is("getTraceState(" + step + ")", x.getTraceState(step), -1);
                    }
                }
            }
        });
    }

    private static void addsGate(InductChecker x) {
        Due.is("addAnd(1, 1) is REFUSED", x.addAnd(1, 1) == -1, false);
    }

    private static void setsLatch(InductChecker x) {
        int last = x.getLatchCount() - 1;
        Due.is("setLatch(last, 1, 1)", x.setLatch(last, 1, 1), true);
    }

    private static void setsBad(InductChecker x) {
        Due.is("setBad(1)", x.setBad(1), true);
    }

    // A second object without the refused calls tells what a later check has to find.
    private static void changesNothing(Calls refused) {
        Shapes.each((inputs, latches) -> {
            for (int gates : new int[] {0, 1, 15, 16}) {
                InductChecker[] called = Circuits.inEveryResult(inputs, latches, gates);
                InductChecker[] spared = Circuits.inEveryResult(inputs, latches, gates);
                for (int k = 0; k < called.length; k++) {
                    InductChecker x = called[k];
                    Snapshot before = Snapshot.whole(x);
                    refused.on(x);
                    Due.is("nothing changed", Snapshot.whole(x).isSameAs(before), true);
                    Due.is("check()", x.check(), spared[k].check());
                    Due.is("check() finds the same", Snapshot.whole(x).isSameAs(Snapshot.whole(spared[k])), true);
                }
            }
        });
    }

    private static int[] notValid(InductChecker x) {
        return Outside.ofLiterals(x.getInputCount(), x.getLatchCount(), x.getGateCount());
    }

    private static void wrongAnds(InductChecker x) {
        for (int lit : notValid(x)) {
            Due.is("addAnd(" + lit + ", 1)", x.addAnd(lit, 1), -1);
            Due.is("addAnd(1, " + lit + ")", x.addAnd(1, lit), -1);
            Due.is("addAnd(" + lit + ", " + lit + ")", x.addAnd(lit, lit), -1);
        }
        if (x.getGateCount() == 16) {
            Due.is("addAnd(1, 1) after sixteen", x.addAnd(1, 1), -1);
        }
    }

    private static void wrongLatches(InductChecker x) {
        int last = x.getLatchCount() - 1;
        for (int latch : Outside.of(0, last)) {
            Due.is("setLatch(" + latch + ", 1, 1)", x.setLatch(latch, 1, 1), false);
        }
        for (int lit : notValid(x)) {
            Due.is("setLatch(" + last + ", " + lit + ", 1)", x.setLatch(last, lit, 1), false);
        }
        for (int init : Outside.of(0, 1)) {
            Due.is("setLatch(" + last + ", 1, " + init + ")", x.setLatch(last, 1, init), false);
        }
    }

    private static void wrongBads(InductChecker x) {
        for (int lit : notValid(x)) {
            Due.is("setBad(" + lit + ")", x.setBad(lit), false);
        }
    }

    private static void wrongLiterals(InductChecker x) {
        for (int lit : notValid(x)) {
            Due.is("evalLit(" + lit + ", -1, -1)", x.evalLit(lit, -1, -1), -1);
        }
    }

    private static void wrongReads(InductChecker x) {
        for (int step : Outside.of(0, 1)) {
            Due.is("getTraceInputs(" + step + ")", x.getTraceInputs(step), -1);
            Due.is("getTraceState(" + step + ")", x.getTraceState(step), -1);
        }
        for (int latch : Outside.of(0, x.getLatchCount() - 1)) {
            Due.is("getLatchNext(" + latch + ")", x.getLatchNext(latch), -1);
            Due.is("getLatchInit(" + latch + ")", x.getLatchInit(latch), -1);
        }
    }
}
