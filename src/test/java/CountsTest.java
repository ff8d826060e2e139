/** Promises 11, 12 and 13. */
public final class CountsTest {
    public static void main(String[] args) {
        Due.sentence("Promise 11: answers G, the number of gates added so far (0..16)", CountsTest::gates);
        Due.sentence("Promise 11: a refused addAnd is not a gate added", CountsTest::refusedGates);
        Due.sentence("Promise 11: Nothing changes", () -> Reading.changesNothing(InductChecker::getGateCount));
        Due.sentence("Promise 12: answers I (0..3), as fixed at construction", CountsTest::inputs);
        Due.sentence("Promise 12: Nothing changes", () -> Reading.changesNothing(InductChecker::getInputCount));
        Due.sentence("Promise 13: answers L (1..4), as fixed at construction", CountsTest::latches);
        Due.sentence("Promise 13: Nothing changes", () -> Reading.changesNothing(InductChecker::getLatchCount));
        Due.end();
    }

    private static void gates() {
        Shapes.each((inputs, latches) -> {
            InductChecker x = new InductChecker(inputs, latches);
            for (int gate = 0; gate <= 20; gate++) {
                Due.is("getGateCount()", x.getGateCount(), Math.min(gate, 16));
                x.setLatch(0, 0, 0);
                x.setBad(1);
                x.check();
                Due.is("getGateCount()", x.getGateCount(), Math.min(gate, 16));
                x.addAnd(0, 0);
            }
        });
    }

    private static void refusedGates() {
        Shapes.each((inputs, latches) -> {
            for (int gates = 0; gates <= 16; gates++) {
                InductChecker x = Circuits.follower(inputs, latches, gates);
                x.addAnd(-1, 0);
                x.addAnd(0, -1);
                x.addAnd(Shapes.literals(inputs, latches, gates), 0);
                x.addAnd(0, Shapes.literals(inputs, latches, gates));
                Due.is("getGateCount()", x.getGateCount(), gates);
            }
        });
    }

    private static void use(InductChecker x) {
        for (int gate = 0; gate < 17; gate++) {
            x.addAnd(1, 1);
        }
        x.setLatch(0, 1, 1);
        x.setLatch(4, 1, 1);
        x.setBad(1);
        x.check();
    }

    private static void inputs() {
        for (int asked = -1; asked <= 4; asked++) {
            for (int latches = 0; latches <= 5; latches++) {
                InductChecker x = new InductChecker(asked, latches);
                int due = asked == -1 ? 0 : Math.min(asked, 3);
                Due.is("getInputCount() of " + asked, x.getInputCount(), due);
                use(x);
                Due.is("getInputCount() of " + asked, x.getInputCount(), due);
            }
        }
    }

    private static void latches() {
        for (int inputs = -1; inputs <= 4; inputs++) {
            for (int asked = 0; asked <= 5; asked++) {
                InductChecker x = new InductChecker(inputs, asked);
                int due = asked == 0 ? 1 : Math.min(asked, 4);
                Due.is("getLatchCount() of " + asked, x.getLatchCount(), due);
                use(x);
                Due.is("getLatchCount() of " + asked, x.getLatchCount(), due);
            }
        }
    }
}
