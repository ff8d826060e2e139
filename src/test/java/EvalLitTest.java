/** Promise 10. */
public final class EvalLitTest {
    private static final int[] WIDE = {-1, -2, -6, 8, 16, 21, 255, 256, 1 << 16, 1 << 30, Integer.MIN_VALUE,
        Integer.MIN_VALUE + 5, Integer.MAX_VALUE};

    public static void main(String[] args) {
        Due.sentence("Promise 10: answers the value, 0 or 1, of lit", EvalLitTest::values);
        Due.sentence("Promise 10: Only the low L bits of state matter", EvalLitTest::lowStateBits);
        Due.sentence("Promise 10: Only the low I bits of inputs matter", EvalLitTest::lowInputBits);
        Due.sentence("Promise 10: higher bits, including the sign bit of a negative int, are ignored",
            EvalLitTest::signBit);
        Due.sentence("Promise 10: If lit is not VALID the answer is REFUSED", EvalLitTest::notValid);
        Due.sentence("Promise 10: Literal 0 always gives 0 and literal 1 always gives 1", EvalLitTest::falseAndTrue);
        Due.sentence("Promise 10: It changes nothing: not the circuit, not the result, not the trace",
            EvalLitTest::changesNothing);
        Due.end();
    }

    private static void values() {
        Shapes.each((inputs, latches) -> {
            InductChecker x = Circuits.follower(inputs, latches, 16);
            Model model = new Model(inputs, latches);
            for (int gate = 0; gate < 16; gate++) {
                model.addAnd(model.literals() - 1, Circuits.rightOf(inputs, latches, gate));
            }
            for (int lit = 0; lit < model.literals(); lit++) {
                for (int bits = 0; bits < 1 << inputs + latches; bits++) {
                    int state = bits >> inputs;
                    int vector = bits & (1 << inputs) - 1;
                    Due.is("evalLit(" + lit + ", " + state + ", " + vector + ")",
                        x.evalLit(lit, state, vector), model.evalLit(lit, state, vector));
                }
            }
        });
    }

    // The gates put together neighbours, where a bit that came too high or too low would be seen.
    private static InductChecker neighbours(int inputs, int latches) {
        InductChecker x = new InductChecker(inputs, latches);
        for (int variable = 0; variable < inputs + latches; variable++) {
            x.addAnd(2 * variable + 1, 2 * variable + 2);
        }
        return x;
    }

    private static void lowStateBits() {
        Shapes.each((inputs, latches) -> {
            InductChecker x = neighbours(inputs, latches);
            for (int lit = 0; lit < Shapes.literals(inputs, latches, inputs + latches); lit++) {
                for (int bits = 0; bits < 1 << inputs + latches; bits++) {
                    int state = bits >> inputs;
                    int due = x.evalLit(lit, state, bits & (1 << inputs) - 1);
                    for (int bit = latches; bit < 32; bit++) {
                        Due.is("evalLit(" + lit + ", " + (state | 1 << bit) + ", " + bits + ")",
                            x.evalLit(lit, state | 1 << bit, bits & (1 << inputs) - 1), due);
                    }
                }
            }
        });
    }

    private static void lowInputBits() {
        Shapes.each((inputs, latches) -> {
            InductChecker x = neighbours(inputs, latches);
            for (int lit = 0; lit < Shapes.literals(inputs, latches, inputs + latches); lit++) {
                for (int bits = 0; bits < 1 << inputs + latches; bits++) {
                    int vector = bits & (1 << inputs) - 1;
                    int due = x.evalLit(lit, bits >> inputs, vector);
                    for (int bit = inputs; bit < 32; bit++) {
                        Due.is("evalLit(" + lit + ", " + (bits >> inputs) + ", " + (vector | 1 << bit) + ")",
                            x.evalLit(lit, bits >> inputs, vector | 1 << bit), due);
                    }
                }
            }
        });
    }

    private static void signBit() {
        Shapes.each((inputs, latches) -> {
            InductChecker x = neighbours(inputs, latches);
            for (int lit = 0; lit < Shapes.literals(inputs, latches, inputs + latches); lit++) {
                for (int state : WIDE) {
                    for (int vector : WIDE) {
                        int due = x.evalLit(lit, state & (1 << latches) - 1, vector & (1 << inputs) - 1);
                        Due.is("evalLit(" + lit + ", " + state + ", " + vector + ")",
                            x.evalLit(lit, state, vector), due);
                    }
                }
            }
            int lastLatch = Circuits.latch(x, latches - 1);
            Due.is("the last latch under -1", x.evalLit(lastLatch, -1, 0), 1);
            Due.is("the last latch under the sign bit", x.evalLit(lastLatch, Integer.MIN_VALUE, -1), 0);
            if (inputs > 0) {
                Due.is("the last input under -1", x.evalLit(2 * inputs, 0, -1), 1);
                Due.is("the last input under the sign bit", x.evalLit(2 * inputs, -1, Integer.MIN_VALUE), 0);
            }
        });
    }

    private static void notValid() {
        Shapes.each((inputs, latches) -> {
            for (int gates = 0; gates <= 16; gates++) {
                InductChecker x = Circuits.follower(inputs, latches, gates);
                for (int lit : Outside.ofLiterals(inputs, latches, gates)) {
                    Due.is("evalLit(" + lit + ", 0, 0)", x.evalLit(lit, 0, 0), -1);
                    Due.is("evalLit(" + lit + ", -1, -1)", x.evalLit(lit, -1, -1), -1);
                }
            }
        });
    }

    private static void falseAndTrue() {
        Shapes.each((inputs, latches) -> {
            for (InductChecker x : Circuits.inEveryResult(inputs, latches, 16)) {
                for (int state : WIDE) {
                    for (int vector : WIDE) {
                        Due.is("evalLit(0, " + state + ", " + vector + ")", x.evalLit(0, state, vector), 0);
                        Due.is("evalLit(1, " + state + ", " + vector + ")", x.evalLit(1, state, vector), 1);
                    }
                }
            }
        });
    }

    private static void changesNothing() {
        for (int lit : new int[] {Integer.MIN_VALUE, -1, 0, 1, 3, 8, 48, Integer.MAX_VALUE}) {
            for (int bits : new int[] {0, 5, -1}) {
                Reading.changesNothing(x -> x.evalLit(lit, bits, bits));
            }
        }
    }
}
