import java.util.Random;

/** Circuits, and parts of circuits, that several tests use. */
final class Circuits {
    private Circuits() {
    }

    static int input(int j) {
        return 2 * (1 + j);
    }

    static int latch(InductChecker x, int j) {
        return 2 * (1 + x.getInputCount() + j);
    }

    static int or(InductChecker x, int a, int b) {
        return x.addAnd(a ^ 1, b ^ 1) ^ 1;
    }

    /** The literal of "the inputs are this vector". */
    static int vectorIs(InductChecker x, int vector) {
        int all = 1;
        for (int j = 0; j < x.getInputCount(); j++) {
            int bit = input(j) ^ 1 ^ (vector >> j & 1);
            all = j == 0 ? bit : x.addAnd(all, bit);
        }
        return all;
    }

    /** The literal of "the vector of the first so many inputs is one whose bit is set in the table". */
    static int vectorIsIn(InductChecker x, int inputs, int table) {
        if (inputs == 0) {
            return table & 1;
        }
        int half = 1 << inputs - 1;
        int low = vectorIsIn(x, inputs - 1, table & (1 << half) - 1);
        int high = vectorIsIn(x, inputs - 1, table >> half);
        return choose(x, input(inputs - 1), high, low);
    }

    private static int choose(InductChecker x, int by, int high, int low) {
        if (high == low) {
            return high;
        }
        if (high <= 1 && low <= 1) {
            return by ^ low;
        }
        return or(x, x.addAnd(by, high), x.addAnd(by ^ 1, low));
    }

    /**
     * The latches count up from 0 in each step in which the literal is true; bad is the step
     * in which they are all on and the literal is true again. Three gates for each latch.
     */
    static void count(InductChecker x, int when) {
        int carry = when;
        for (int j = 0; j < x.getLatchCount(); j++) {
            int both = x.addAnd(carry, latch(x, j));
            int neither = x.addAnd(carry ^ 1, latch(x, j) ^ 1);
            x.setLatch(j, x.addAnd(both ^ 1, neither ^ 1), 0);
            carry = both;
        }
        x.setBad(carry);
    }

    /** Counts when all inputs are on: its trace has every length, state and vector at its greatest. */
    static InductChecker counter(int inputs, int latches) {
        InductChecker x = new InductChecker(inputs, latches);
        count(x, vectorIs(x, (1 << inputs) - 1));
        return x;
    }

    /** Counts in every step: its trace is as long, with all inputs 0. */
    static InductChecker freeCounter(int inputs, int latches) {
        InductChecker x = new InductChecker(inputs, latches);
        count(x, 1);
        return x;
    }

    /** The right literal of some gate with that number, which differs from its neighbours'. */
    static int rightOf(int inputs, int latches, int gate) {
        return 3 + 2 * (gate % (inputs + latches));
    }

    /** So many gates, each over the one before, and nothing set. */
    static InductChecker withGates(int inputs, int latches, int gates) {
        InductChecker x = new InductChecker(inputs, latches);
        for (int gate = 0; gate < gates; gate++) {
            x.addAnd(Shapes.literals(inputs, latches, gate) - 1, rightOf(inputs, latches, gate));
        }
        return x;
    }

    /** One input that the one latch takes over, bad when the latch is set: UNSAFE with inputs 1, 0 and states 0, 1. */
    static InductChecker follower() {
        return follower(1, 1, 0);
    }

    /**
     * Latch 0 takes over the last input (TRUE if there is none) and is bad when set; the other
     * latches turn over in each step. UNSAFE with a trace of length 1.
     */
    static InductChecker follower(int inputs, int latches, int gates) {
        InductChecker x = withGates(inputs, latches, gates);
        x.setLatch(0, inputs == 0 ? 1 : input(inputs - 1), 0);
        for (int j = 1; j < latches; j++) {
            x.setLatch(j, latch(x, j) ^ 1, j & 1);
        }
        x.setBad(latch(x, 0));
        return x;
    }

    /** The follower in every result: NONE before and after a check, SAFE after a trace, UNSAFE. */
    static InductChecker[] inEveryResult(int inputs, int latches, int gates) {
        InductChecker neverChecked = follower(inputs, latches, gates);
        InductChecker edited = follower(inputs, latches, gates);
        edited.check();
        edited.setBad(edited.getBadLit());
        InductChecker safe = follower(inputs, latches, gates);
        safe.check();
        safe.setBad(0);
        safe.check();
        InductChecker unsafe = follower(inputs, latches, gates);
        unsafe.check();
        return new InductChecker[] {neverChecked, edited, safe, unsafe};
    }

    static InductChecker random(Random random, int inputs, int latches) {
        InductChecker x = new InductChecker(inputs, latches);
        int gates = random.nextInt(17);
        for (int gate = 0; gate < gates; gate++) {
            int literals = Shapes.literals(inputs, latches, gate);
            x.addAnd(random.nextInt(literals), random.nextInt(literals));
        }
        int literals = Shapes.literals(inputs, latches, gates);
        for (int latch = 0; latch < latches; latch++) {
            x.setLatch(latch, 2 + random.nextInt(literals - 2), random.nextInt(2));
        }
        x.setBad(random.nextInt(literals));
        return x;
    }
}
