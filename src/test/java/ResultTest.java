/** Promise 6. */
public final class ResultTest {
    public static void main(String[] args) {
        Due.sentence("Promise 6: It is NONE on a fresh object", ResultTest::fresh);
        Due.sentence("Promise 6: It is NONE after every successful edit", ResultTest::edited);
        Due.sentence("Promise 6: it is the answer of the latest check()", ResultTest::latest);
        Due.sentence("Promise 6: when no successful edit has happened since: refused ones", ResultTest::refusedEdits);
        Due.sentence("Promise 6: Nothing changes", () -> Reading.changesNothing(InductChecker::getResult));
        Due.end();
    }

    private static void fresh() {
        Shapes.each((inputs, latches) -> {
            InductChecker x = new InductChecker(inputs, latches);
            Due.is("getResult()", x.getResult(), 0);
            x.addAnd(-1, 0);
            x.setLatch(-1, 0, 0);
            x.setBad(-1);
            Due.is("getResult() after refused edits", x.getResult(), 0);
        });
    }

    private static void edited() {
        Shapes.each((inputs, latches) -> {
            for (InductChecker x : Circuits.inEveryResult(inputs, latches, 15)) {
                x.setBad(x.getBadLit());
                Due.is("getResult() after setBad", x.getResult(), 0);
                x.check();
                x.setLatch(latches - 1, 0, 0);
                Due.is("getResult() after setLatch", x.getResult(), 0);
                x.check();
                x.addAnd(0, 0);
                Due.is("getResult() after addAnd", x.getResult(), 0);
            }
        });
    }

    private static void latest() {
        Shapes.each((inputs, latches) -> {
            InductChecker x = new InductChecker(inputs, latches);
            for (int time = 0; time < 3; time++) {
                x.setBad(0);
                Due.is("check()", x.check(), 1);
                Due.is("getResult()", x.getResult(), 1);
                x.setBad(1);
                Due.is("check()", x.check(), 2);
                Due.is("getResult()", x.getResult(), 2);
                Due.is("check()", x.check(), 2);
                Due.is("getResult()", x.getResult(), 2);
            }
        });
    }

    private static void refusedEdits() {
        Shapes.each((inputs, latches) -> {
            int[] due = {0, 0, 1, 2};
            int wrong = Shapes.literals(inputs, latches, 16);
            InductChecker[] all = Circuits.inEveryResult(inputs, latches, 16);
            for (int k = 0; k < all.length; k++) {
                InductChecker x = all[k];
                x.addAnd(0, 0);
                Due.is("getResult() after the seventeenth addAnd", x.getResult(), due[k]);
                x.setLatch(latches, 0, 0);
                x.setLatch(0, wrong, 0);
                x.setLatch(0, 0, 2);
                Due.is("getResult() after refused setLatch", x.getResult(), due[k]);
                x.setBad(wrong);
                Due.is("getResult() after a refused setBad", x.getResult(), due[k]);
            }
        });
    }
}
