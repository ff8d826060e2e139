/** Circuits that several tests use. */
final class Circuits {
    private Circuits() {
    }

    /** Adds the gates of a XOR b, and answers the literal of it. */
    static int xor(InductChecker x, int a, int b) {
        int both = x.addAnd(a, b);
        int neither = x.addAnd(a ^ 1, b ^ 1);
        return x.addAnd(both ^ 1, neither ^ 1);
    }

    /** Four latches that count up each step from 0 to 15, bad at 15; no inputs are needed, but there may be some. */
    static InductChecker counterTo15(int inputs) {
        InductChecker x = new InductChecker(inputs, 4);
        int first = 2 * (1 + inputs);
        int carry2 = x.addAnd(first, first + 2);
        int carry3 = x.addAnd(carry2, first + 4);
        int next1 = xor(x, first, first + 2);
        int next2 = xor(x, carry2, first + 4);
        int next3 = xor(x, carry3, first + 6);
        int all = x.addAnd(carry3, first + 6);
        x.setLatch(0, first ^ 1, 0);
        x.setLatch(1, next1, 0);
        x.setLatch(2, next2, 0);
        x.setLatch(3, next3, 0);
        x.setBad(all);
        return x;
    }

    /** One input that the one latch takes over, bad when the latch is set: UNSAFE with inputs 1, 0 and states 0, 1. */
    static InductChecker follower() {
        InductChecker x = new InductChecker(1, 1);
        x.setLatch(0, 2, 0);
        x.setBad(4);
        return x;
    }
}
