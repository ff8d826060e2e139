import java.util.Random;

/** All promises: long runs of calls, right and wrong ones, each answer compared with the model's. */
public final class RandomRunsTest {
    private static final int[] WRONG = {-1, -2, -3, 48, 49, 64, 1000, Integer.MIN_VALUE, Integer.MAX_VALUE};

    public static void main(String[] args) {
        int longest = 0;
        int[] results = new int[3];
        for (int seed = 0; seed < 3000 && Due.wrongSoFar() < 20; seed++) {
            // The seed is fixed, so that every run of this test is the same.
            Random random = new Random(seed);
            int inputs = random.nextInt(6) - 1;
            int latches = random.nextInt(7) - 1;
            InductChecker x = new InductChecker(inputs, latches);
            Model model = new Model(inputs, latches);
            readAll("run " + seed + " at the start: ", x, model);
            if (seed % 2 == 1) {
                fillWithCounter(random, x, model);
                readAll("run " + seed + " with the counter: ", x, model);
                longest = Math.max(longest, x.getTraceLength());
            }
            for (int call = 0; call < 40; call++) {
                String told = "run " + seed + " call " + call + ": ";
                oneCall(told, random, x, model);
                readAll(told, x, model);
                results[x.getResult()]++;
                longest = Math.max(longest, x.getTraceLength());
            }
        }
        Due.is("the runs saw NONE, SAFE and UNSAFE often",
            results[0] > 1000 && results[1] > 1000 && results[2] > 1000, true);
        Due.is("the longest trace of the runs", longest, 15);
        Due.end();
    }

    private static int addToBoth(int left, int right, InductChecker x, Model model) {
        int due = model.addAnd(left, right);
        Due.is("addAnd(" + left + ", " + right + ")", x.addAnd(left, right), due);
        return due;
    }

    // Random gates seldom make long traces; a counter that goes on while a
    // literal is true, bad at some one state, makes them up to the longest.
    private static void fillWithCounter(Random random, InductChecker x, Model model) {
        int carry = random.nextInt(2 + 2 * model.inputs) | 1;
        int bad = 1;
        for (int latch = 0; latch < model.latches; latch++) {
            int own = 2 * (1 + model.inputs + latch);
            int both = addToBoth(carry, own, x, model);
            int neither = addToBoth(carry ^ 1, own ^ 1, x, model);
            int next = addToBoth(both ^ 1, neither ^ 1, x, model);
            int init = random.nextInt(2);
            Due.is("setLatch(" + latch + ", " + next + ", " + init + ")",
                x.setLatch(latch, next, init), model.setLatch(latch, next, init));
            bad = addToBoth(bad, own ^ random.nextInt(2), x, model);
            carry = both;
        }
        Due.is("setBad(" + bad + ")", x.setBad(bad), model.setBad(bad));
        Due.is("check()", x.check(), model.check());
    }

    private static int someLiteral(Random random, Model model) {
        if (random.nextInt(10) == 0) {
            return WRONG[random.nextInt(WRONG.length)];
        }
        return random.nextInt(model.literals() + (random.nextInt(10) == 0 ? 3 : 0));
    }

    private static void oneCall(String told, Random random, InductChecker x, Model model) {
        int first = someLiteral(random, model);
        int second = someLiteral(random, model);
        switch (random.nextInt(10)) {
            case 0, 1, 2, 3 ->
                Due.is(told + "addAnd(" + first + ", " + second + ")",
                    x.addAnd(first, second), model.addAnd(first, second));
            case 4, 5 -> {
                int latch = random.nextInt(8) == 0 ? first : random.nextInt(model.latches);
                int init = random.nextInt(10) == 0 ? second : random.nextInt(2);
                Due.is(told + "setLatch(" + latch + ", " + second + ", " + init + ")",
                    x.setLatch(latch, second, init), model.setLatch(latch, second, init));
            }
            case 6 ->
                Due.is(told + "setBad(" + first + ")", x.setBad(first), model.setBad(first));
            case 7 -> {
                int state = random.nextInt();
                int inputs = random.nextInt();
                Due.is(told + "evalLit(" + first + ", " + state + ", " + inputs + ")",
                    x.evalLit(first, state, inputs), model.evalLit(first, state, inputs));
            }
            default ->
                Due.is(told + "check()", x.check(), model.check());
        }
    }

    private static void readAll(String told, InductChecker x, Model model) {
        Due.is(told + "getInputCount()", x.getInputCount(), model.inputs);
        Due.is(told + "getLatchCount()", x.getLatchCount(), model.latches);
        Due.is(told + "getGateCount()", x.getGateCount(), model.gates.size());
        Due.is(told + "getBadLit()", x.getBadLit(), model.bad);
        Due.is(told + "getResult()", x.getResult(), model.result);
        Due.is(told + "getTraceLength()", x.getTraceLength(), model.traceLength());
        for (int latch = -1; latch <= 4; latch++) {
            boolean known = latch >= 0 && latch < model.latches;
            Due.is(told + "getLatchNext(" + latch + ")", x.getLatchNext(latch), known ? model.next[latch] : -1);
            Due.is(told + "getLatchInit(" + latch + ")", x.getLatchInit(latch), known ? model.init[latch] : -1);
        }
        for (int step = -1; step <= 16; step++) {
            Due.is(told + "getTraceInputs(" + step + ")", x.getTraceInputs(step), model.traceInputs(step));
            Due.is(told + "getTraceState(" + step + ")", x.getTraceState(step), model.traceState(step));
        }
    }
}
