/** 'Numbering': the first and the last variable of each kind, and where literals begin and end. */
public final class NumberingTest {
    public static void main(String[] args) {
        Due.sentence("Numbering: I inputs (0..3), L latches (1..4) and G and-gates (0..16)", NumberingTest::counts);
        Due.sentence("Numbering: Variable 0 is the constant FALSE", NumberingTest::constant);
        Due.sentence("Numbering: Input j is variable 1+j (j < I)", NumberingTest::inputs);
        Due.sentence("Numbering: Latch j is variable 1+I+j (j < L)", NumberingTest::latches);
        Due.sentence("Numbering: Gate g (0-based, in order of creation) is variable 1+I+L+g", NumberingTest::gates);
        Due.sentence("Numbering: V = 1+I+L+G is the number of defined variables", NumberingTest::variables);
        Due.sentence("Numbering: A literal is 2*v+n with n in {0,1}; n = 1 negates", NumberingTest::negation);
        Due.sentence("Numbering: Literal 0 is FALSE and literal 1 is TRUE", NumberingTest::falseAndTrue);
        Due.sentence("Numbering: A literal is VALID iff 0 <= lit < 2*V: those inside", NumberingTest::inside);
        Due.sentence("Numbering: A literal is VALID iff 0 <= lit < 2*V: those outside", NumberingTest::outside);
        Due.sentence("Numbering: with V taken as it currently stands", NumberingTest::asItStands);
        Due.sentence("Numbering: Negative numbers are never VALID", NumberingTest::negative);
        Due.sentence("Numbering: V never shrinks, so a literal once VALID stays VALID", NumberingTest::staysValid);
        Due.end();
    }

    private static void counts() {
        Shapes.each((inputs, latches) -> {
            InductChecker x = new InductChecker(inputs, latches);
            for (int gate = 0; gate <= 18; gate++) {
                Due.is("getInputCount()", x.getInputCount(), inputs);
                Due.is("getLatchCount()", x.getLatchCount(), latches);
                Due.is("getGateCount()", x.getGateCount(), Math.min(gate, 16));
                x.addAnd(0, 1);
            }
        });
    }

    private interface Value {
        int of(int state, int inputs);
    }

    private static void underAll(InductChecker x, int lit, Value due) {
        for (int s = 0; s < 1 << x.getLatchCount(); s++) {
            for (int i = 0; i < 1 << x.getInputCount(); i++) {
                Due.is("evalLit(" + lit + ", " + s + ", " + i + ")", x.evalLit(lit, s, i), due.of(s, i));
            }
        }
    }

    private static void constant() {
        Shapes.each((inputs, latches) -> {
            InductChecker x = new InductChecker(inputs, latches);
            underAll(x, 0, (s, i) -> 0);
            for (int gate = 0; gate < 16; gate++) {
                x.addAnd(1, 1);
            }
            underAll(x, 0, (s, i) -> 0);
        });
    }

    private static void inputs() {
        Shapes.each((inputs, latches) -> {
            InductChecker x = new InductChecker(inputs, latches);
            for (int j = 0; j < inputs; j++) {
                int bit = j;
                underAll(x, 2 * (1 + j), (s, i) -> i >> bit & 1);
            }
        });
    }

    private static void latches() {
        Shapes.each((inputs, latches) -> {
            InductChecker x = new InductChecker(inputs, latches);
            for (int j = 0; j < latches; j++) {
                int bit = j;
                underAll(x, 2 * (1 + inputs + j), (s, i) -> s >> bit & 1);
            }
        });
    }

    private static void gates() {
        Shapes.each((inputs, latches) -> {
            InductChecker x = new InductChecker(inputs, latches);
            for (int gate = 0; gate < 16; gate++) {
                // Neighbouring gates look at other latches, or the same one turned over.
                int own = 2 * (1 + inputs + gate % latches);
                x.addAnd(own + (gate / latches & 1), 1);
            }
            for (int gate = 0; gate < 16; gate++) {
                int bit = gate % latches;
                int turned = gate / latches & 1;
                underAll(x, 2 * (1 + inputs + latches + gate), (s, i) -> (s >> bit & 1) ^ turned);
            }
        });
    }

    private static void variables() {
        Shapes.each((inputs, latches) -> {
            InductChecker x = new InductChecker(inputs, latches);
            for (int gate = 0; gate <= 16; gate++) {
                int literals = 2 * (1 + inputs + latches + gate);
                int last = x.evalLit(literals - 1, 0, 0);
                Due.is("the last literal can be read", last == 0 || last == 1, true);
                Due.is("evalLit(" + literals + ", 0, 0)", x.evalLit(literals, 0, 0), -1);
                Due.is("evalLit(" + (literals + 1) + ", 0, 0)", x.evalLit(literals + 1, 0, 0), -1);
                x.addAnd(1, 1);
            }
        });
    }

    private static void negation() {
        Shapes.each((inputs, latches) -> {
            InductChecker x = Circuits.follower(inputs, latches, 16);
            for (int variable = 0; variable < 1 + inputs + latches + 16; variable++) {
                int lit = 2 * variable;
                underAll(x, lit + 1, (s, i) -> 1 - x.evalLit(lit, s, i));
            }
        });
    }

    private static void falseAndTrue() {
        Shapes.each((inputs, latches) -> {
            for (InductChecker x : Circuits.inEveryResult(inputs, latches, 3)) {
                underAll(x, 0, (s, i) -> 0);
                underAll(x, 1, (s, i) -> 1);
            }
        });
    }

    private static void inside() {
        Shapes.each((inputs, latches) -> {
            for (int gates = 0; gates <= 16; gates++) {
                int literals = Shapes.literals(inputs, latches, gates);
                InductChecker x = Circuits.follower(inputs, latches, gates);
                for (int lit = 0; lit < literals; lit++) {
                    Due.is("setBad(" + lit + ")", x.setBad(lit), true);
                    Due.is("setLatch(0, " + lit + ", 1)", x.setLatch(0, lit, 1), true);
                    Due.is("evalLit(" + lit + ", 0, 0) is REFUSED", x.evalLit(lit, 0, 0) == -1, false);
                }
                for (int lit = 0; lit < literals && gates < 16; lit++) {
                    InductChecker left = Circuits.follower(inputs, latches, gates);
                    Due.is("addAnd(" + lit + ", 0)", left.addAnd(lit, 0), literals);
                    InductChecker right = Circuits.follower(inputs, latches, gates);
                    Due.is("addAnd(0, " + lit + ")", right.addAnd(0, lit), literals);
                }
            }
        });
    }

    private static void refusedEverywhere(InductChecker x, int lit) {
        Due.is("addAnd(" + lit + ", 0)", x.addAnd(lit, 0), -1);
        Due.is("addAnd(0, " + lit + ")", x.addAnd(0, lit), -1);
        Due.is("setLatch(0, " + lit + ", 0)", x.setLatch(0, lit, 0), false);
        Due.is("setBad(" + lit + ")", x.setBad(lit), false);
        Due.is("evalLit(" + lit + ", 0, 0)", x.evalLit(lit, 0, 0), -1);
    }

    private static void outside() {
        Shapes.each((inputs, latches) -> {
            for (int gates = 0; gates <= 16; gates++) {
                InductChecker x = Circuits.follower(inputs, latches, gates);
                for (int lit : Outside.ofLiterals(inputs, latches, gates)) {
                    refusedEverywhere(x, lit);
                }
            }
        });
    }

    private static void asItStands() {
        Shapes.each((inputs, latches) -> {
            InductChecker x = new InductChecker(inputs, latches);
            for (int gate = 0; gate < 16; gate++) {
                int lit = Shapes.literals(inputs, latches, gate);
                refusedEverywhere(x, lit);
                refusedEverywhere(x, lit + 1);
                Due.is("addAnd(1, 1)", x.addAnd(1, 1), lit);
                Due.is("setLatch(0, " + lit + ", 0)", x.setLatch(0, lit, 0), true);
                Due.is("setBad(" + (lit + 1) + ")", x.setBad(lit + 1), true);
                Due.is("evalLit(" + lit + ", 0, 0)", x.evalLit(lit, 0, 0), 1);
                Due.is("evalLit(" + (lit + 1) + ", 0, 0)", x.evalLit(lit + 1, 0, 0), 0);
            }
        });
    }

    private static void negative() {
        Shapes.each((inputs, latches) -> {
            for (int gates : new int[] {0, 1, 16}) {
                InductChecker x = Circuits.follower(inputs, latches, gates);
                for (int lit = -1; lit >= -100; lit--) {
                    refusedEverywhere(x, lit);
                    refusedEverywhere(x, Integer.MIN_VALUE - 1 - lit);
                }
            }
        });
    }

    private static void staysValid() {
        Shapes.each((inputs, latches) -> {
            InductChecker x = new InductChecker(inputs, latches);
            for (int gate = 0; gate < 16; gate++) {
                int lit = x.addAnd(1, 1);
                x.addAnd(-1, 0);
                x.setLatch(0, 0, 1);
                x.setLatch(latches, 0, 0);
                x.setBad(1);
                x.check();
                x.setBad(-1);
                for (int earlier = 0; earlier <= lit + 1; earlier++) {
                    Due.is("setLatch(0, " + earlier + ", 1)", x.setLatch(0, earlier, 1), true);
                    Due.is("setBad(" + earlier + ")", x.setBad(earlier), true);
                    Due.is("evalLit(" + earlier + ", 0, 0) is REFUSED", x.evalLit(earlier, 0, 0) == -1, false);
                }
            }
        });
    }
}
