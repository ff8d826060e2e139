/** Promise 1, and the constants of the public face. */
public final class ConstructionTest {
    public static void main(String[] args) {
        Due.sentence("Public constants", ConstructionTest::constants);
        Due.sentence("Promise 1: never fails, for any int arguments", ConstructionTest::neverFails);
        Due.sentence("Promise 1: inputs: a value below 0 becomes 0", ConstructionTest::inputsBelow);
        Due.sentence("Promise 1: inputs: a value above 3 becomes 3", ConstructionTest::inputsAbove);
        Due.sentence("Promise 1: inputs: otherwise it is kept", ConstructionTest::inputsKept);
        Due.sentence("Promise 1: latches: a value below 1 becomes 1", ConstructionTest::latchesBelow);
        Due.sentence("Promise 1: latches: a value above 4 becomes 4", ConstructionTest::latchesAbove);
        Due.sentence("Promise 1: latches: otherwise it is kept", ConstructionTest::latchesKept);
        Due.sentence("Promise 1: FRESH: G = 0", ConstructionTest::noGates);
        Due.sentence("Promise 1: FRESH: next literal 2*(1+I+j), so it keeps its value", ConstructionTest::ownLiterals);
        Due.sentence("Promise 1: FRESH: init value 0", ConstructionTest::initZero);
        Due.sentence("Promise 1: FRESH: the bad literal is 0 (FALSE)", ConstructionTest::badFalse);
        Due.sentence("Promise 1: FRESH: the result is NONE", ConstructionTest::resultNone);
        Due.sentence("Promise 1: FRESH: no trace is stored", ConstructionTest::noTrace);
        Due.sentence("Promise 1: FRESH also after other objects were used", ConstructionTest::objectsAreApart);
        Due.sentence("Promise 1: I and L never change afterwards", ConstructionTest::countsStay);
        Due.end();
    }

    private static void constants() {
        Due.is("REFUSED", InductChecker.REFUSED, -1);
        Due.is("NONE", InductChecker.NONE, 0);
        Due.is("SAFE", InductChecker.SAFE, 1);
        Due.is("UNSAFE", InductChecker.UNSAFE, 2);
        Due.is("MAX_INPUTS", InductChecker.MAX_INPUTS, 3);
        Due.is("MIN_LATCHES", InductChecker.MIN_LATCHES, 1);
        Due.is("MAX_LATCHES", InductChecker.MAX_LATCHES, 4);
        Due.is("MAX_GATES", InductChecker.MAX_GATES, 16);
        Due.is("MAX_TRACE_STEPS", InductChecker.MAX_TRACE_STEPS, 16);
    }

    private static void neverFails() {
        for (int inputs : Outside.of(0, 3)) {
            for (int latches : Outside.of(1, 4)) {
                InductChecker x = new InductChecker(inputs, latches);
                String of = "new InductChecker(" + inputs + ", " + latches + ").";
                Due.is(of + "getInputCount()", x.getInputCount(), inputs < 0 ? 0 : 3);
                Due.is(of + "getLatchCount()", x.getLatchCount(), latches < 1 ? 1 : 4);
                Due.is(of + "check()", x.check(), 1);
            }
        }
    }

    private static void inputCount(int asked, int latches, int due) {
        InductChecker x = new InductChecker(asked, latches);
        Due.is("new InductChecker(" + asked + ", " + latches + ").getInputCount()", x.getInputCount(), due);
        int first = x.getLatchNext(0);
        Due.is("new InductChecker(" + asked + ", " + latches + ").getLatchNext(0)", first, 2 * (1 + due));
    }

    private static void inputsBelow() {
        for (int latches = 0; latches <= 5; latches++) {
            for (int asked : Outside.of(0, 3)) {
                if (asked < 0) {
                    inputCount(asked, latches, 0);
                }
            }
        }
    }

    private static void inputsAbove() {
        for (int latches = 0; latches <= 5; latches++) {
            for (int asked : Outside.of(0, 3)) {
                if (asked > 3) {
                    inputCount(asked, latches, 3);
                }
            }
        }
    }

    private static void inputsKept() {
        for (int latches = 0; latches <= 5; latches++) {
            for (int asked = 0; asked <= 3; asked++) {
                inputCount(asked, latches, asked);
            }
        }
    }

    private static void latchCount(int inputs, int asked, int due) {
        InductChecker x = new InductChecker(inputs, asked);
        String of = "new InductChecker(" + inputs + ", " + asked + ").";
        Due.is(of + "getLatchCount()", x.getLatchCount(), due);
        Due.is(of + "getLatchInit(" + (due - 1) + ")", x.getLatchInit(due - 1), 0);
        Due.is(of + "getLatchInit(" + due + ")", x.getLatchInit(due), -1);
    }

    private static void latchesBelow() {
        for (int inputs = -1; inputs <= 4; inputs++) {
            for (int asked : Outside.of(1, 4)) {
                if (asked < 1) {
                    latchCount(inputs, asked, 1);
                }
            }
        }
    }

    private static void latchesAbove() {
        for (int inputs = -1; inputs <= 4; inputs++) {
            for (int asked : Outside.of(1, 4)) {
                if (asked > 4) {
                    latchCount(inputs, asked, 4);
                }
            }
        }
    }

    private static void latchesKept() {
        for (int inputs = -1; inputs <= 4; inputs++) {
            for (int asked = 1; asked <= 4; asked++) {
                latchCount(inputs, asked, asked);
            }
        }
    }

    private static void noGates() {
        Shapes.each((inputs, latches) -> {
            InductChecker x = new InductChecker(inputs, latches);
            Due.is("getGateCount()", x.getGateCount(), 0);
            int literals = 2 * (1 + inputs + latches);
            Due.is("evalLit(" + (literals - 1) + ", 0, 0)", x.evalLit(literals - 1, 0, 0), 1);
            Due.is("evalLit(" + literals + ", 0, 0)", x.evalLit(literals, 0, 0), -1);
        });
    }

    private static void ownLiterals() {
        Shapes.each((inputs, latches) -> {
            for (int j = 0; j < latches; j++) {
                InductChecker x = new InductChecker(inputs, latches);
                Due.is("getLatchNext(" + j + ")", x.getLatchNext(j), 2 * (1 + inputs + j));
                x.setBad(Circuits.latch(x, j));
                Due.is("check(): latch " + j + " keeps its 0", x.check(), 1);
            }
        });
    }

    private static void initZero() {
        Shapes.each((inputs, latches) -> {
            InductChecker x = new InductChecker(inputs, latches);
            for (int j = 0; j < latches; j++) {
                Due.is("getLatchInit(" + j + ")", x.getLatchInit(j), 0);
            }
            x.setBad(1);
            x.check();
            Due.is("getTraceState(0)", x.getTraceState(0), 0);
        });
    }

    private static void badFalse() {
        Shapes.each((inputs, latches) -> {
            InductChecker x = new InductChecker(inputs, latches);
            Due.is("getBadLit()", x.getBadLit(), 0);
            Due.is("check()", x.check(), 1);
        });
    }

    private static void resultNone() {
        Shapes.each((inputs, latches) ->
            Due.is("getResult()", new InductChecker(inputs, latches).getResult(), 0));
    }

    private static void noTrace() {
        Shapes.each((inputs, latches) -> {
            InductChecker x = new InductChecker(inputs, latches);
            Due.is("getTraceLength()", x.getTraceLength(), -1);
            for (int step = -1; step <= 17; step++) {
                Due.is("getTraceInputs(" + step + ")", x.getTraceInputs(step), -1);
                Due.is("getTraceState(" + step + ")", x.getTraceState(step), -1);
            }
        });
    }

    private static void objectsAreApart() {
        Shapes.each((inputs, latches) -> {
            InductChecker first = new InductChecker(inputs, latches);
            Snapshot fresh = Snapshot.whole(first);
            InductChecker used = Circuits.counter(3 - inputs, 5 - latches);
            used.check();
            Snapshot after = Snapshot.whole(used);
            Due.is("the object made before is FRESH", Snapshot.whole(first).isSameAs(fresh), true);
            InductChecker second = new InductChecker(inputs, latches);
            Due.is("the object made after is FRESH", Snapshot.whole(second).isSameAs(fresh), true);
            Due.is("the used object is as it was", Snapshot.whole(used).isSameAs(after), true);
            InductChecker other = Circuits.follower(inputs, latches, 16);
            other.check();
            Due.is("the used object is as it was", Snapshot.whole(used).isSameAs(after), true);
        });
    }

    private static void countsStay() {
        Shapes.each((inputs, latches) -> {
            for (InductChecker x : Circuits.inEveryResult(inputs, latches, 16)) {
                x.addAnd(0, 0);
                x.setLatch(latches, 0, 0);
                x.setLatch(latches - 1, 1, 1);
                x.setBad(-1);
                x.check();
                Due.is("getInputCount()", x.getInputCount(), inputs);
                Due.is("getLatchCount()", x.getLatchCount(), latches);
            }
        });
    }
}
