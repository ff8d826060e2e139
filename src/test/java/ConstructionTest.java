/** Promise 1, and the constants of the public face. */
public final class ConstructionTest {
    public static void main(String[] args) {
        constants();
        int[] asked = {Integer.MIN_VALUE, -5, -1, 0, 1, 2, 3, 4, 5, 10, Integer.MAX_VALUE};
        for (int inputs : asked) {
            for (int latches : asked) {
                fresh(inputs, latches);
            }
        }
        Due.end();
    }

    private static void constants() {
        Due.is("REFUSED", InductChecker.REFUSED, -1);
        Due.is("NONE", InductChecker.NONE, 0);
        Due.is("SAFE", InductChecker.SAFE, 1);
        Due.is("UNSAFE", InductChecker.UNSAFE, 2);
        Due.is("MAX_INPUTS", InductChecker.MAX_INPUTS, 3);
        Due.is("MIN_LATCHES", InductChecker.MIN_LATCHES, 1);
        Due.is("MAX_LATCHES", InductChecker.MAX_LATCHES, 4);
        Due.is("MAX_GATES", InductChecker.MAX_GATES, 16);
        Due.is("MAX_TRACE_STEPS", InductChecker.MAX_TRACE_STEPS, 16);
    }

    private static void fresh(int inputs, int latches) {
        String of = "new InductChecker(" + inputs + ", " + latches + ").";
        InductChecker x = new InductChecker(inputs, latches);
        int i = inputs < 0 ? 0 : Math.min(inputs, 3);
        int l = latches < 1 ? 1 : Math.min(latches, 4);
        Due.is(of + "getInputCount()", x.getInputCount(), i);
        Due.is(of + "getLatchCount()", x.getLatchCount(), l);
        Due.is(of + "getGateCount()", x.getGateCount(), 0);
        Due.is(of + "getBadLit()", x.getBadLit(), 0);
        Due.is(of + "getResult()", x.getResult(), 0);
        Due.is(of + "getTraceLength()", x.getTraceLength(), -1);
        Due.is(of + "getTraceInputs(0)", x.getTraceInputs(0), -1);
        Due.is(of + "getTraceState(0)", x.getTraceState(0), -1);
        for (int latch = 0; latch < 5; latch++) {
            Due.is(of + "getLatchNext(" + latch + ")", x.getLatchNext(latch), latch < l ? 2 * (1 + i + latch) : -1);
            Due.is(of + "getLatchInit(" + latch + ")", x.getLatchInit(latch), latch < l ? 0 : -1);
        }
        int literals = 2 * (1 + i + l);
        Due.is(of + "evalLit(last)", x.evalLit(literals - 1, 0, 0), 1);
        Due.is(of + "evalLit(last + 1)", x.evalLit(literals, 0, 0), -1);
        Due.is(of + "check()", x.check(), 1);
    }
}
