/** Promises 7, 8 and 9. */
public final class TraceTest {
    public static void main(String[] args) {
        Due.sentence("Promise 7: answers d of the stored trace if the result is UNSAFE", TraceTest::lengths);
        Due.sentence("Promise 7: otherwise REFUSED", TraceTest::lengthRefused);
        Due.sentence("Promise 7: it lies in 0..2^L-1, and hence in 0..15", TraceTest::lengthEnds);
        Due.sentence("Promise 7: Nothing changes", () -> Reading.changesNothing(InductChecker::getTraceLength));

        Due.sentence("Promise 8: answers x_step if UNSAFE and 0 <= step <= d", TraceTest::inputsOfAllSteps);
        Due.sentence("Promise 8: REFUSED when the result is not UNSAFE", () -> notUnsafe(InductChecker::getTraceInputs));
        Due.sentence("Promise 8: REFUSED when step is negative", () -> negative(InductChecker::getTraceInputs));
        Due.sentence("Promise 8: REFUSED when step is greater than d", () -> beyond(InductChecker::getTraceInputs));
        Due.sentence("Promise 8: A non-REFUSED answer lies in 0..2^I-1", TraceTest::inputEnds);
        Due.sentence("Promise 8: when I = 0 it is always 0", TraceTest::noInputs);
        Due.sentence("Promise 8: Nothing changes", () -> changesNothing(InductChecker::getTraceInputs));

        Due.sentence("Promise 9: answers s_step if UNSAFE and 0 <= step <= d", TraceTest::statesOfAllSteps);
        Due.sentence("Promise 9: REFUSED when the result is not UNSAFE", () -> notUnsafe(InductChecker::getTraceState));
        Due.sentence("Promise 9: REFUSED when step is negative", () -> negative(InductChecker::getTraceState));
        Due.sentence("Promise 9: REFUSED when step is greater than d", () -> beyond(InductChecker::getTraceState));
        Due.sentence("Promise 9: A non-REFUSED answer lies in 0..2^L-1", TraceTest::stateEnds);
        Due.sentence("Promise 9: s_0 is init and each following state is next of the previous", TraceTest::statesFollow);
        Due.sentence("Promise 9: Nothing changes", () -> changesNothing(InductChecker::getTraceState));
        Due.end();
    }

    private interface Read {
        int at(InductChecker x, int step);
    }

    /** A counter that is bad for the first time after just so many steps, with all inputs on in each. */
    private static InductChecker ofLength(int inputs, int latches, int d) {
        InductChecker x = Circuits.counter(inputs, latches);
        startAt(x, d);
        return x;
    }

    /** The same, after the longest trace was there before. */
    private static InductChecker ofLengthAfterLongest(int inputs, int latches, int d) {
        InductChecker x = Circuits.counter(inputs, latches);
        Due.is("check()", x.check(), 2);
        startAt(x, d);
        return x;
    }

    private static void startAt(InductChecker x, int stepsBefore) {
        int start = (1 << x.getLatchCount()) - 1 - stepsBefore;
        for (int j = 0; j < x.getLatchCount(); j++) {
            x.setLatch(j, x.getLatchNext(j), start >> j & 1);
        }
        Due.is("check()", x.check(), 2);
    }

    private interface Length {
        void of(InductChecker x, int d);
    }

    private static void eachLength(Length test) {
        Shapes.each((inputs, latches) -> {
            for (int d = 0; d < 1 << latches; d++) {
                test.of(ofLength(inputs, latches, d), d);
                test.of(ofLengthAfterLongest(inputs, latches, d), d);
            }
        });
    }

    private static void lengths() {
        eachLength((x, d) -> Due.is("getTraceLength()", x.getTraceLength(), d));
    }

    private static InductChecker[] notUnsafeOnes(int inputs, int latches) {
        InductChecker[] all = Circuits.inEveryResult(inputs, latches, 2);
        InductChecker edited = Circuits.counter(inputs, latches);
        edited.check();
        edited.setLatch(0, edited.getLatchNext(0), 0);
        InductChecker safe = Circuits.counter(inputs, latches);
        safe.check();
        safe.setBad(0);
        safe.check();
        InductChecker fresh = new InductChecker(inputs, latches);
        return new InductChecker[] {all[0], all[1], all[2], edited, safe, fresh};
    }

    private static void lengthRefused() {
        Shapes.each((inputs, latches) -> {
            for (InductChecker x : notUnsafeOnes(inputs, latches)) {
                Due.is("getTraceLength()", x.getTraceLength(), -1);
            }
        });
    }

    private static void lengthEnds() {
        Shapes.each((inputs, latches) -> {
            int most = (1 << latches) - 1;
            Due.is("the least length", ofLength(inputs, latches, 0).getTraceLength(), 0);
            Due.is("the greatest length", ofLength(inputs, latches, most).getTraceLength(), most);
        });
    }

    private static void inputsOfAllSteps() {
        eachLength((x, d) -> {
            for (int step = 0; step <= d; step++) {
                Due.is("getTraceInputs(" + step + ") of " + d, x.getTraceInputs(step), (1 << x.getInputCount()) - 1);
            }
        });
        // Each step has a vector of its own: the latches wait in a ring for 1, 2, 3 and then 4.
        InductChecker x = new InductChecker(3, 4);
        for (int j = 1; j < 4; j++) {
            x.setLatch(j, x.addAnd(Circuits.latch(x, j - 1), Circuits.vectorIs(x, j)), 0);
        }
        x.setLatch(0, 0, 1);
        x.setBad(x.addAnd(Circuits.latch(x, 3), Circuits.vectorIs(x, 4)));
        Due.is("check()", x.check(), 2);
        for (int step = 0; step < 4; step++) {
            Due.is("getTraceInputs(" + step + ")", x.getTraceInputs(step), step + 1);
            Due.is("getTraceState(" + step + ")", x.getTraceState(step), 1 << step);
        }
    }

    private static void statesOfAllSteps() {
        eachLength((x, d) -> {
            for (int step = 0; step <= d; step++) {
                int due = (1 << x.getLatchCount()) - 1 - d + step;
                Due.is("getTraceState(" + step + ") of " + d, x.getTraceState(step), due);
            }
        });
    }

    private static void notUnsafe(Read read) {
        Shapes.each((inputs, latches) -> {
            for (InductChecker x : notUnsafeOnes(inputs, latches)) {
                for (int step = -2; step <= 17; step++) {
                    Due.is("at step " + step, read.at(x, step), -1);
                }
                Due.is("at the least step", read.at(x, Integer.MIN_VALUE), -1);
                Due.is("at the greatest step", read.at(x, Integer.MAX_VALUE), -1);
            }
        });
    }

    private static void negative(Read read) {
        eachLength((x, d) -> {
            for (int step : Outside.of(0, d)) {
                if (step < 0) {
                    Due.is("at step " + step + " of " + d, read.at(x, step), -1);
                }
            }
        });
    }

    private static void beyond(Read read) {
        eachLength((x, d) -> {
            for (int step : Outside.of(0, d)) {
                if (step > d) {
                    Due.is("at step " + step + " of " + d, read.at(x, step), -1);
                }
            }
            Due.is("the last step of " + d + " is REFUSED", read.at(x, d) == -1, false);
            for (int step = d + 1; step <= 17; step++) {
                Due.is("at step " + step + " of " + d, read.at(x, step), -1);
            }
        });
    }

    private static void inputEnds() {
        Shapes.each((inputs, latches) -> {
            InductChecker least = Circuits.freeCounter(inputs, latches);
            least.check();
            InductChecker greatest = Circuits.counter(inputs, latches);
            greatest.check();
            for (int step = 0; step < 1 << latches; step++) {
                Due.is("the least vector", least.getTraceInputs(step), 0);
                Due.is("the greatest vector", greatest.getTraceInputs(step), (1 << inputs) - 1);
            }
        });
    }

    // An object has no inputs also when less than none were asked for.
    private static void noInputs() {
        for (int latches = 1; latches <= 4; latches++) {
            for (int asked : new int[] {0, -1, Integer.MIN_VALUE}) {
                InductChecker x = new InductChecker(asked, latches);
                Circuits.count(x, 1);
                Due.is("check()", x.check(), 2);
                for (int step = 0; step < 1 << latches; step++) {
                    Due.is("getTraceInputs(" + step + ")", x.getTraceInputs(step), 0);
                }
            }
        }
    }

    private static void stateEnds() {
        Shapes.each((inputs, latches) -> {
            int last = (1 << latches) - 1;
            InductChecker x = ofLength(inputs, latches, last);
            Due.is("the least state", x.getTraceState(0), 0);
            Due.is("the greatest state", x.getTraceState(last), last);
        });
    }

    private static void statesFollow() {
        eachLength((x, d) -> {
            for (int j = 0; j < x.getLatchCount(); j++) {
                Due.is("bit " + j + " of s_0", x.getTraceState(0) >> j & 1, x.getLatchInit(j));
                for (int t = 0; t < d; t++) {
                    int due = x.evalLit(x.getLatchNext(j), x.getTraceState(t), x.getTraceInputs(t));
                    Due.is("bit " + j + " of s_" + (t + 1), x.getTraceState(t + 1) >> j & 1, due);
                }
            }
        });
    }

    private static void changesNothing(Read read) {
        for (int step : new int[] {-1, 0, 1, 2, 15, 16, Integer.MIN_VALUE, Integer.MAX_VALUE}) {
            Reading.changesNothing(x -> read.at(x, step));
        }
    }
}
