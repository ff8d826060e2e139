/** Promises 14 and 15. */
public final class LatchTest {
    public static void main(String[] args) {
        Due.sentence("Promise 14: 2*(1+I+latch) if it was never set successfully", LatchTest::nextNeverSet);
        Due.sentence("Promise 14: otherwise the nextLit of the latest successful setLatch for that latch",
            LatchTest::nextLatest);
        Due.sentence("Promise 14: If latch is not in 0..L-1 the answer is REFUSED",
            () -> noLatch(InductChecker::getLatchNext));
        Due.sentence("Promise 14: Nothing changes", () -> changesNothing(InductChecker::getLatchNext));
        Due.sentence("Promise 15: 0 if it was never set successfully", LatchTest::initNeverSet);
        Due.sentence("Promise 15: otherwise the init of the latest successful setLatch for that latch",
            LatchTest::initLatest);
        Due.sentence("Promise 15: If latch is not in 0..L-1 the answer is REFUSED",
            () -> noLatch(InductChecker::getLatchInit));
        Due.sentence("Promise 15: Nothing changes", () -> changesNothing(InductChecker::getLatchInit));
        Due.end();
    }

    private interface Read {
        int of(InductChecker x, int latch);
    }

    /** Sets no latch with success, though every call but setLatch succeeds. */
    private static InductChecker neverSet(int inputs, int latches) {
        InductChecker x = new InductChecker(inputs, latches);
        x.addAnd(1, 1);
        x.setBad(1);
        x.check();
        for (int j = 0; j < latches; j++) {
            x.setLatch(j, -1, 1);
            x.setLatch(j, Shapes.literals(inputs, latches, 1), 1);
            x.setLatch(j, 1, 2);
            x.setLatch(j, 1, -1);
        }
        x.setLatch(-1, 1, 1);
        x.setLatch(latches, 1, 1);
        return x;
    }

    private static void nextNeverSet() {
        Shapes.each((inputs, latches) -> {
            InductChecker x = neverSet(inputs, latches);
            for (int j = 0; j < latches; j++) {
                Due.is("getLatchNext(" + j + ")", x.getLatchNext(j), 2 * (1 + inputs + j));
            }
        });
    }

    private static void initNeverSet() {
        Shapes.each((inputs, latches) -> {
            InductChecker x = neverSet(inputs, latches);
            for (int j = 0; j < latches; j++) {
                Due.is("getLatchInit(" + j + ")", x.getLatchInit(j), 0);
            }
        });
    }

    private static void nextLatest() {
        Shapes.each((inputs, latches) -> {
            for (int gates = 0; gates <= 16; gates++) {
                InductChecker x = Circuits.follower(inputs, latches, gates);
                int literals = Shapes.literals(inputs, latches, gates);
                for (int j = 0; j < latches; j++) {
                    x.setLatch(j, 0, 1);
                    x.setLatch(j, literals - 1 - j, 0);
                    x.setLatch(j, literals, 0);
                    x.setLatch(j, 1, 2);
                    x.setLatch(j, -1, 1);
                }
                x.check();
                for (int j = 0; j < latches; j++) {
                    Due.is("getLatchNext(" + j + ")", x.getLatchNext(j), literals - 1 - j);
                }
            }
        });
    }

    private static void initLatest() {
        Shapes.each((inputs, latches) -> {
            for (int pattern = 0; pattern < 1 << latches; pattern++) {
                InductChecker x = new InductChecker(inputs, latches);
                for (int j = 0; j < latches; j++) {
                    int init = pattern >> j & 1;
                    x.setLatch(j, 0, 1 - init);
                    x.setLatch(j, 0, init);
                    x.setLatch(j, -1, 1 - init);
                    x.setLatch(j, 0, 2 + (1 - init));
                }
                x.check();
                for (int j = 0; j < latches; j++) {
                    Due.is("getLatchInit(" + j + ")", x.getLatchInit(j), pattern >> j & 1);
                }
            }
        });
    }

    private static void noLatch(Read read) {
        Shapes.each((inputs, latches) -> {
            for (InductChecker x : Circuits.inEveryResult(inputs, latches, 1)) {
                for (int latch : Outside.of(0, latches - 1)) {
                    Due.is("latch " + latch + " of " + latches, read.of(x, latch), -1);
                }
                Due.is("latch 0 is REFUSED", read.of(x, 0) == -1, false);
                Due.is("the last latch is REFUSED", read.of(x, latches - 1) == -1, false);
            }
        });
    }

    private static void changesNothing(Read read) {
        for (int latch : new int[] {Integer.MIN_VALUE, -1, 0, 3, 4, Integer.MAX_VALUE}) {
            Reading.changesNothing(x -> read.of(x, latch));
        }
    }
}
