import java.util.LinkedHashMap;
import java.util.Map;

/** Whether a call that reads changes nothing, judged by every other call on objects that nobody has read yet. */
final class Reading {
    interface Call {
        int on(InductChecker x);
    }

    private static final int[][] SHAPES = {{0, 1}, {1, 4}, {2, 2}, {3, 4}};
    private static final Map<String, Call> PROBES = probes();

    private Reading() {
    }

    private static Map<String, Call> probes() {
        Map<String, Call> all = new LinkedHashMap<>();
        all.put("getResult()", InductChecker::getResult);
        all.put("getTraceLength()", InductChecker::getTraceLength);
        for (int step = -1; step <= 2; step++) {
            int at = step;
            all.put("getTraceInputs(" + at + ")", x -> x.getTraceInputs(at));
            all.put("getTraceState(" + at + ")", x -> x.getTraceState(at));
        }
        for (int latch = -1; latch <= 4; latch++) {
            int at = latch;
            all.put("getLatchNext(" + at + ")", x -> x.getLatchNext(at));
            all.put("getLatchInit(" + at + ")", x -> x.getLatchInit(at));
        }
        all.put("getGateCount()", InductChecker::getGateCount);
        all.put("getInputCount()", InductChecker::getInputCount);
        all.put("getLatchCount()", InductChecker::getLatchCount);
        all.put("getBadLit()", InductChecker::getBadLit);
        all.put("evalLit of all, put together", Reading::allLiterals);
        all.put("check()", InductChecker::check);
        all.put("addAnd(1, 1)", x -> x.addAnd(1, 1));
        return all;
    }

    private static int allLiterals(InductChecker x) {
        int together = 0;
        for (int lit = -1; lit <= 48; lit++) {
            for (int bits = 0; bits < 128; bits++) {
                together = 31 * together + x.evalLit(lit, bits >> 3, bits & 7);
            }
        }
        return together;
    }

    static void changesNothing(Call read) {
        for (int[] shape : SHAPES) {
            for (Map.Entry<String, Call> probe : PROBES.entrySet()) {
                InductChecker[] reads = Circuits.inEveryResult(shape[0], shape[1], 3);
                InductChecker[] spared = Circuits.inEveryResult(shape[0], shape[1], 3);
                for (int k = 0; k < reads.length; k++) {
                    read.on(reads[k]);
                    read.on(reads[k]);
                    int due = probe.getValue().on(spared[k]);
                    Due.is("after the reading, " + probe.getKey(), probe.getValue().on(reads[k]), due);
                }
            }
        }
    }
}
