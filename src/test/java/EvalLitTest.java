import java.util.List;

/** Promise 10. */
public final class EvalLitTest {
    public static void main(String[] args) {
        constantsInputsAndLatches();
        gates();
        deepGates();
        higherBitsAreIgnored();
        wrongLiterals();
        changesNothing();
        Due.end();
    }

    private static void constantsInputsAndLatches() {
        for (int inputs = 0; inputs <= 3; inputs++) {
            for (int latches = 1; latches <= 4; latches++) {
                InductChecker x = new InductChecker(inputs, latches);
                for (int s = 0; s < 1 << latches; s++) {
                    for (int i = 0; i < 1 << inputs; i++) {
                        Due.is("evalLit(0, " + s + ", " + i + ")", x.evalLit(0, s, i), 0);
                        Due.is("evalLit(1, " + s + ", " + i + ")", x.evalLit(1, s, i), 1);
                        variables(x, 1, inputs, i, s, i);
                        variables(x, 1 + inputs, latches, s, s, i);
                    }
                }
            }
        }
    }

    private static void variables(InductChecker x, int first, int count, int bits, int s, int i) {
        for (int j = 0; j < count; j++) {
            int lit = 2 * (first + j);
            int bit = bits >> j & 1;
            Due.is("evalLit(" + lit + ", " + s + ", " + i + ")", x.evalLit(lit, s, i), bit);
            Due.is("evalLit(" + (lit + 1) + ", " + s + ", " + i + ")", x.evalLit(lit + 1, s, i), 1 - bit);
        }
    }

    private static void gates() {
        InductChecker x = new InductChecker(1, 1);
        int[] lits = {0, 1, 2, 3, 4, 5};
        for (int left : lits) {
            InductChecker y = new InductChecker(1, 1);
            for (int right : lits) {
                int gate = y.addAnd(left, right);
                for (int s = 0; s < 2; s++) {
                    for (int i = 0; i < 2; i++) {
                        int due = x.evalLit(left, s, i) == 1 && x.evalLit(right, s, i) == 1 ? 1 : 0;
                        String of = "(" + left + " and " + right + ") under " + s + ", " + i;
                        Due.is(of, y.evalLit(gate, s, i), due);
                        Due.is("not " + of, y.evalLit(gate + 1, s, i), 1 - due);
                    }
                }
            }
        }
    }

    // Each gate negates the one before: the last of the sixteen still follows the latch.
    private static void deepGates() {
        InductChecker x = new InductChecker(3, 4);
        int lit = 14;
        for (int gate = 0; gate < 16; gate++) {
            lit = x.addAnd(lit ^ 1, 1);
            int odd = gate & 1;
            Due.is("gate " + gate + " under 8", x.evalLit(lit, 8, 0), odd);
            Due.is("gate " + gate + " under 0", x.evalLit(lit, 0, 0), 1 - odd);
        }
        Due.is("evalLit(46, 8, 7)", x.evalLit(46, 8, 7), 1);
        Due.is("evalLit(47, 8, 7)", x.evalLit(47, 8, 7), 0);
        Due.is("evalLit(48, 8, 7)", x.evalLit(48, 8, 7), -1);
    }

    private static void higherBitsAreIgnored() {
        for (int inputs = 0; inputs <= 3; inputs++) {
            for (int latches = 1; latches <= 4; latches++) {
                InductChecker x = new InductChecker(inputs, latches);
                x.addAnd(3, 2 * (inputs + latches));
                x.addAnd(2 * (inputs + latches) + 1, 2);
                int stateMask = (1 << latches) - 1;
                int inputMask = (1 << inputs) - 1;
                int literals = 2 * (1 + inputs + latches + 2);
                int[] wide = {-1, -2, -6, 16, 8, 21, 1 << 30, Integer.MIN_VALUE, Integer.MIN_VALUE + 5, Integer.MAX_VALUE};
                for (int value : wide) {
                    for (int lit = 0; lit < literals; lit++) {
                        int due = x.evalLit(lit, value & stateMask, value & inputMask);
                        Due.is("evalLit(" + lit + ", " + value + ", " + value + ")", x.evalLit(lit, value, value), due);
                        int apart = x.evalLit(lit, value & stateMask, 0);
                        Due.is("evalLit(" + lit + ", " + value + ", 0)", x.evalLit(lit, value, 0), apart);
                    }
                }
            }
        }
        InductChecker x = new InductChecker(1, 1);
        Due.is("evalLit(4, 0, -1)", x.evalLit(4, 0, -1), 0);
        Due.is("evalLit(2, -1, 0)", x.evalLit(2, -1, 0), 0);
        Due.is("evalLit(4, 2, 2)", x.evalLit(4, 2, 2), 0);
        Due.is("evalLit(2, 2, 2)", x.evalLit(2, 2, 2), 0);
        Due.is("evalLit(4, -1, 0)", x.evalLit(4, -1, 0), 1);
        Due.is("evalLit(2, 0, -1)", x.evalLit(2, 0, -1), 1);
    }

    private static void wrongLiterals() {
        InductChecker x = new InductChecker(1, 2);
        for (int lit : new int[] {-1, -2, 8, 9, 64, 65, Integer.MIN_VALUE, Integer.MAX_VALUE}) {
            Due.is("evalLit(" + lit + ", 3, 1)", x.evalLit(lit, 3, 1), -1);
        }
        x.addAnd(2, 4);
        Due.is("evalLit(8, 1, 1)", x.evalLit(8, 1, 1), 1);
        Due.is("evalLit(9, 1, 1)", x.evalLit(9, 1, 1), 0);
        Due.is("evalLit(10, 1, 1)", x.evalLit(10, 1, 1), -1);
    }

    private static void changesNothing() {
        InductChecker x = Circuits.counterTo15(1);
        x.check();
        List<Integer> before = Snapshot.whole(x);
        for (int lit = -2; lit < 60; lit++) {
            x.evalLit(lit, lit * 7, lit * 5);
        }
        Due.is("evalLit changes nothing", Snapshot.whole(x).equals(before), true);
    }
}
