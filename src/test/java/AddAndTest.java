/** Promise 2. */
public final class AddAndTest {
    public static void main(String[] args) {
        Due.sentence("Promise 2: adds gate number G with the given left and right literals", AddAndTest::adds);
        Due.sentence("Promise 2: refused if G == 16", AddAndTest::full);
        Due.sentence("Promise 2: not refused if G == 15", AddAndTest::almostFull);
        Due.sentence("Promise 2: refused if left is not VALID", AddAndTest::leftNotValid);
        Due.sentence("Promise 2: refused if right is not VALID", AddAndTest::rightNotValid);
        Due.sentence("Promise 2: the first that holds gives REFUSED: several hold", AddAndTest::severalHold);
        Due.sentence("Promise 2: the first that holds gives REFUSED with nothing changed", AddAndTest::nothingChanged);
        Due.sentence("Promise 2: V as it stands before the gate is added, never itself", AddAndTest::neverItself);
        Due.sentence("Promise 2: can use literals of variable 0, inputs, latches and earlier gates",
            AddAndTest::allEarlier);
        Due.sentence("Promise 2: G grows by 1 (so V grows by 1)", AddAndTest::grows);
        Due.sentence("Promise 2: the result becomes NONE, any trace is discarded", AddAndTest::discards);
        Due.sentence("Promise 2: the answer is the new gate's positive literal 2*(1+I+L+oldG)", AddAndTest::answers);
        Due.sentence("Promise 2: Latch settings, the bad literal and earlier gates do not change",
            AddAndTest::leavesTheRest);
        Due.end();
    }

    private static void adds() {
        Shapes.each((inputs, latches) -> {
            int literals = Shapes.literals(inputs, latches, 0);
            InductChecker plain = new InductChecker(inputs, latches);
            for (int left = 0; left < literals; left++) {
                InductChecker x = new InductChecker(inputs, latches);
                for (int right = 0; right < literals; right++) {
                    int gate = x.addAnd(left, right);
                    for (int bits = 0; bits < 1 << inputs + latches; bits++) {
                        int state = bits >> inputs;
                        int due = plain.evalLit(left, state, bits) * plain.evalLit(right, state, bits);
                        Due.is(left + " and " + right, x.evalLit(gate, state, bits), due);
                    }
                }
            }
        });
    }

    private static void full() {
        Shapes.each((inputs, latches) -> {
            for (InductChecker x : Circuits.inEveryResult(inputs, latches, 16)) {
                for (int lit = 0; lit < Shapes.literals(inputs, latches, 16); lit++) {
                    Due.is("seventeenth addAnd(" + lit + ", 0)", x.addAnd(lit, 0), -1);
                    Due.is("seventeenth addAnd(1, " + lit + ")", x.addAnd(1, lit), -1);
                }
                Due.is("getGateCount()", x.getGateCount(), 16);
            }
        });
    }

    private static void almostFull() {
        Shapes.each((inputs, latches) -> {
            for (InductChecker x : Circuits.inEveryResult(inputs, latches, 15)) {
                int due = 2 * (1 + inputs + latches + 15);
                Due.is("sixteenth addAnd(1, 1)", x.addAnd(1, 1), due);
                Due.is("getGateCount()", x.getGateCount(), 16);
                Due.is("evalLit(" + due + ", 0, 0)", x.evalLit(due, 0, 0), 1);
            }
        });
    }

    private static void leftNotValid() {
        Shapes.each((inputs, latches) -> {
            for (int gates = 0; gates < 16; gates++) {
                InductChecker x = Circuits.follower(inputs, latches, gates);
                for (int lit : Outside.ofLiterals(inputs, latches, gates)) {
                    Due.is("addAnd(" + lit + ", 0)", x.addAnd(lit, 0), -1);
                }
                Due.is("getGateCount()", x.getGateCount(), gates);
            }
        });
    }

    private static void rightNotValid() {
        Shapes.each((inputs, latches) -> {
            for (int gates = 0; gates < 16; gates++) {
                InductChecker x = Circuits.follower(inputs, latches, gates);
                for (int lit : Outside.ofLiterals(inputs, latches, gates)) {
                    Due.is("addAnd(0, " + lit + ")", x.addAnd(0, lit), -1);
                }
                Due.is("getGateCount()", x.getGateCount(), gates);
            }
        });
    }

    private static void severalHold() {
        Shapes.each((inputs, latches) -> {
            for (int gates : new int[] {0, 7, 16}) {
                InductChecker x = Circuits.follower(inputs, latches, gates);
                int[] wrong = Outside.ofLiterals(inputs, latches, gates);
                for (int left : wrong) {
                    for (int right : wrong) {
                        Due.is("addAnd(" + left + ", " + right + ")", x.addAnd(left, right), -1);
                    }
                    Due.is("addAnd(" + left + ", 0) after " + gates, x.addAnd(left, 0), -1);
                    Due.is("addAnd(0, " + left + ") after " + gates, x.addAnd(0, left), -1);
                }
                Due.is("getGateCount()", x.getGateCount(), gates);
            }
        });
    }

    private static void nothingChanged() {
        Shapes.each((inputs, latches) -> {
            for (int gates : new int[] {0, 15, 16}) {
                int wrong = Shapes.literals(inputs, latches, gates);
                for (InductChecker x : Circuits.inEveryResult(inputs, latches, gates)) {
                    Snapshot before = Snapshot.whole(x);
                    x.addAnd(wrong, 0);
                    Due.is("addAnd(wrong, 0) left all", Snapshot.whole(x).isSameAs(before), true);
                    x.addAnd(0, wrong);
                    Due.is("addAnd(0, wrong) left all", Snapshot.whole(x).isSameAs(before), true);
                    x.addAnd(gates == 16 ? 0 : -1, 0);
                    Due.is("a refused addAnd left all", Snapshot.whole(x).isSameAs(before), true);
                }
            }
        });
    }

    private static void neverItself() {
        Shapes.each((inputs, latches) -> {
            InductChecker x = new InductChecker(inputs, latches);
            for (int gate = 0; gate < 16; gate++) {
                int own = Shapes.literals(inputs, latches, gate);
                for (int lit = own; lit <= own + 1; lit++) {
                    Due.is("addAnd(" + lit + ", 0)", x.addAnd(lit, 0), -1);
                    Due.is("addAnd(0, " + lit + ")", x.addAnd(0, lit), -1);
                    Due.is("addAnd(" + lit + ", " + lit + ")", x.addAnd(lit, lit), -1);
                }
                Due.is("addAnd(" + (own - 1) + ", " + (own - 1) + ")", x.addAnd(own - 1, own - 1), own);
            }
        });
    }

    private static void allEarlier() {
        Shapes.each((inputs, latches) -> {
            for (int gates = 0; gates < 16; gates++) {
                int literals = Shapes.literals(inputs, latches, gates);
                for (int lit = 0; lit < literals; lit++) {
                    InductChecker x = Circuits.follower(inputs, latches, gates);
                    Due.is("addAnd(" + lit + ", " + (literals - 1 - lit) + ")",
                        x.addAnd(lit, literals - 1 - lit), literals);
                }
            }
        });
    }

    private static void grows() {
        Shapes.each((inputs, latches) -> {
            InductChecker x = new InductChecker(inputs, latches);
            for (int gate = 0; gate < 16; gate++) {
                int literals = Shapes.literals(inputs, latches, gate);
                Due.is("evalLit(" + literals + ", 0, 0)", x.evalLit(literals, 0, 0), -1);
                x.addAnd(1, 1);
                Due.is("getGateCount()", x.getGateCount(), gate + 1);
                Due.is("evalLit(" + literals + ", 0, 0)", x.evalLit(literals, 0, 0), 1);
                Due.is("evalLit(" + (literals + 1) + ", 0, 0)", x.evalLit(literals + 1, 0, 0), 0);
                Due.is("evalLit(" + (literals + 2) + ", 0, 0)", x.evalLit(literals + 2, 0, 0), -1);
            }
        });
    }

    // Even a gate that nothing uses, the same as an earlier one.
    private static void discards() {
        Shapes.each((inputs, latches) -> {
            for (int gates : new int[] {0, 1, 15}) {
                for (InductChecker x : Circuits.inEveryResult(inputs, latches, gates)) {
                    x.addAnd(0, 0);
                    Due.is("getResult()", x.getResult(), 0);
                    Due.is("getTraceLength()", x.getTraceLength(), -1);
                    Due.is("getTraceInputs(0)", x.getTraceInputs(0), -1);
                    Due.is("getTraceState(0)", x.getTraceState(0), -1);
                }
            }
        });
    }

    private static void answers() {
        Shapes.each((inputs, latches) -> {
            InductChecker x = new InductChecker(inputs, latches);
            for (int gate = 0; gate < 16; gate++) {
                int due = 2 * (1 + inputs + latches + gate);
                Due.is("addAnd(" + (due - 1) + ", 1)", x.addAnd(due - 1, 1), due);
            }
        });
    }

    private static void leavesTheRest() {
        Shapes.each((inputs, latches) -> {
            InductChecker x = Circuits.follower(inputs, latches, 0);
            InductChecker bare = Circuits.follower(inputs, latches, 0);
            Model earlier = new Model(inputs, latches);
            for (int gate = 0; gate < 16; gate++) {
                int left = earlier.literals() - 1;
                int right = Circuits.rightOf(inputs, latches, gate);
                x.addAnd(left, right);
                Due.is("getBadLit()", x.getBadLit(), bare.getBadLit());
                for (int j = 0; j < latches; j++) {
                    Due.is("getLatchNext(" + j + ")", x.getLatchNext(j), bare.getLatchNext(j));
                    Due.is("getLatchInit(" + j + ")", x.getLatchInit(j), bare.getLatchInit(j));
                }
                for (int lit = 0; lit < earlier.literals(); lit++) {
                    for (int bits = 0; bits < 1 << inputs + latches; bits++) {
                        int state = bits >> inputs;
                        int vector = bits & (1 << inputs) - 1;
                        Due.is("evalLit(" + lit + ", " + state + ", " + vector + ")",
                            x.evalLit(lit, state, vector), earlier.evalLit(lit, state, vector));
                    }
                }
                earlier.addAnd(left, right);
            }
        });
    }
}
