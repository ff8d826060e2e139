/** 'Values': what the bits of a state and of an input vector mean, and the values of literals. */
public final class ValuesTest {
    public static void main(String[] args) {
        Due.sentence("Values: A state is an int whose bit j (j < L) is the value of latch j", ValuesTest::stateBits);
        Due.sentence("Values: An input vector is an int whose bit j (j < I) is the value of input j",
            ValuesTest::inputBits);
        Due.sentence("Values: variable 0 has value 0", ValuesTest::variableZero);
        Due.sentence("Values: gate g has the value value(left literal) AND value(right literal)", ValuesTest::gate);
        Due.sentence("Values: literal 2v+n has the value value(v) XOR n", ValuesTest::literalOfDeepGate);
        Due.sentence("Values: A gate refers only to variables defined before it", ValuesTest::onlyBefore);
        Due.sentence("Values: init is the state whose bit j is the init value of latch j", ValuesTest::init);
        Due.sentence("Values: next(s,x) is the state whose bit j is the value of latch j's next literal",
            ValuesTest::next);
        Due.sentence("Values: bad(s,x) is the value of the bad literal", ValuesTest::bad);
        Due.end();
    }

    private static void stateBits() {
        Shapes.each((inputs, latches) -> {
            for (int j = 0; j < latches; j++) {
                InductChecker x = new InductChecker(inputs, latches);
                x.setLatch(j, 0, 1);
                x.setBad(1);
                x.check();
                Due.is("getTraceState(0) with latch " + j + " on", x.getTraceState(0), 1 << j);
                Due.is("evalLit of latch " + j, x.evalLit(Circuits.latch(x, j), 1 << j, 0), 1);
                Due.is("evalLit of latch " + j, x.evalLit(Circuits.latch(x, j), ~(1 << j), -1), 0);
            }
        });
    }

    private static void inputBits() {
        Shapes.each((inputs, latches) -> {
            for (int j = 0; j < inputs; j++) {
                InductChecker x = new InductChecker(inputs, latches);
                x.setBad(Circuits.input(j));
                Due.is("check()", x.check(), 2);
                Due.is("getTraceInputs(0) with input " + j + " on", x.getTraceInputs(0), 1 << j);
                Due.is("evalLit of input " + j, x.evalLit(Circuits.input(j), 0, 1 << j), 1);
                Due.is("evalLit of input " + j, x.evalLit(Circuits.input(j), -1, ~(1 << j)), 0);
            }
        });
    }

    private static void variableZero() {
        Shapes.each((inputs, latches) -> {
            InductChecker x = new InductChecker(inputs, latches);
            for (int bits : new int[] {0, 1, -1, Integer.MIN_VALUE, Integer.MAX_VALUE}) {
                Due.is("evalLit(0, " + bits + ", " + bits + ")", x.evalLit(0, bits, bits), 0);
            }
            int gate = x.addAnd(0, 1);
            Due.is("FALSE and TRUE", x.evalLit(gate, -1, -1), 0);
            x.setLatch(0, 0, 1);
            x.setBad(Circuits.latch(x, 0) + 1);
            x.check();
            Due.is("getTraceState(1): latch 0 took over FALSE", x.getTraceState(1), 0);
        });
    }

    private static void gate() {
        InductChecker plain = new InductChecker(1, 1);
        for (int left = 0; left < 6; left++) {
            for (int right = 0; right < 6; right++) {
                InductChecker x = new InductChecker(1, 1);
                int gate = x.addAnd(left, right);
                for (int s = 0; s < 2; s++) {
                    for (int i = 0; i < 2; i++) {
                        int due = plain.evalLit(left, s, i) * plain.evalLit(right, s, i);
                        String of = left + " and " + right + " under (" + s + ", " + i + ")";
                        Due.is(of, x.evalLit(gate, s, i), due);
                        Due.is("not: " + of, x.evalLit(gate + 1, s, i), 1 - due);
                    }
                }
            }
        }
    }

    // Each gate negates the one before: the last of the sixteen still follows the last latch.
    private static void literalOfDeepGate() {
        Shapes.each((inputs, latches) -> {
            InductChecker x = new InductChecker(inputs, latches);
            int on = 1 << latches - 1;
            int lit = Circuits.latch(x, latches - 1);
            for (int gate = 0; gate < 16; gate++) {
                lit = gate % 3 == 0 ? x.addAnd(1, lit ^ 1) : x.addAnd(lit ^ 1, 1);
                int odd = gate & 1;
                Due.is("gate " + gate + " under " + on, x.evalLit(lit, on, -1), odd);
                Due.is("gate " + gate + " under " + ~on, x.evalLit(lit, ~on, 0), 1 - odd);
                Due.is("not gate " + gate + " under " + on, x.evalLit(lit + 1, on, 0), 1 - odd);
                Due.is("not gate " + gate + " under " + ~on, x.evalLit(lit + 1, ~on, -1), odd);
            }
        });
    }

    private static void onlyBefore() {
        Shapes.each((inputs, latches) -> {
            for (int gates = 0; gates <= 16; gates++) {
                InductChecker x = Circuits.follower(inputs, latches, gates);
                int own = Shapes.literals(inputs, latches, gates);
                for (int lit = own; lit < own + 40; lit++) {
                    Due.is("addAnd(" + lit + ", 1) as gate " + gates, x.addAnd(lit, 1), -1);
                    Due.is("addAnd(1, " + lit + ") as gate " + gates, x.addAnd(1, lit), -1);
                }
            }
        });
    }

    private static void init() {
        Shapes.each((inputs, latches) -> {
            for (int state = 0; state < 1 << latches; state++) {
                InductChecker x = new InductChecker(inputs, latches);
                for (int j = 0; j < latches; j++) {
                    x.setLatch(j, 0, state >> j & 1);
                }
                x.setBad(1);
                Due.is("check()", x.check(), 2);
                Due.is("getTraceState(0) from " + state, x.getTraceState(0), state);
            }
        });
    }

    // The latches are turned round by one place, so each bit comes from another latch.
    private static void next() {
        Shapes.each((inputs, latches) -> {
            for (int j = 0; j < latches; j++) {
                InductChecker x = new InductChecker(inputs, latches);
                for (int k = 0; k < latches; k++) {
                    x.setLatch(k, Circuits.latch(x, (k + latches - 1) % latches), k == 0 ? 1 : 0);
                }
                x.setBad(Circuits.latch(x, j));
                Due.is("check()", x.check(), 2);
                Due.is("getTraceLength()", x.getTraceLength(), j);
                for (int t = 0; t <= j; t++) {
                    Due.is("getTraceState(" + t + ")", x.getTraceState(t), 1 << t);
                }
            }
        });
    }

    private static void bad() {
        Shapes.each((inputs, latches) -> {
            for (int lit = 0; lit < Shapes.literals(inputs, latches, 0); lit++) {
                InductChecker x = new InductChecker(inputs, latches);
                x.setBad(lit);
                boolean isInput = lit >= 2 && lit < 2 * (1 + inputs);
                Due.is("check() with bad literal " + lit, x.check(), lit % 2 == 1 || isInput ? 2 : 1);
            }
        });
    }
}
