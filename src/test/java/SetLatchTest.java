/** Promise 3. */
public final class SetLatchTest {
    public static void main(String[] args) {
        Due.sentence("Promise 3: sets the next literal and init value of one latch", SetLatchTest::sets);
        Due.sentence("Promise 3: false if latch is not in 0..L-1", SetLatchTest::noLatch);
        Due.sentence("Promise 3: false if nextLit is not VALID", SetLatchTest::notValid);
        Due.sentence("Promise 3: false if init is neither 0 nor 1", SetLatchTest::noInit);
        Due.sentence("Promise 3: the first that holds gives false: several hold", SetLatchTest::severalHold);
        Due.sentence("Promise 3: the first that holds gives false with nothing changed", SetLatchTest::nothingChanged);
        Due.sentence("Promise 3: both values are stored, replacing the old ones", SetLatchTest::replaces);
        Due.sentence("Promise 3: the result becomes NONE, any trace is discarded, and the answer is true",
            SetLatchTest::discards);
        Due.sentence("Promise 3: This holds even when the new values equal the old ones", SetLatchTest::sameValues);
        Due.sentence("Promise 3: Other latches, the gates and the bad literal do not change",
            SetLatchTest::leavesTheRest);
        Due.end();
    }

    // The first and the last literal, with both init values, for the first and the last latch.
    private static void sets() {
        Shapes.each((inputs, latches) -> {
            for (int gates = 0; gates <= 16; gates++) {
                int last = Shapes.literals(inputs, latches, gates) - 1;
                InductChecker x = Circuits.follower(inputs, latches, gates);
                for (int j = 0; j < latches; j++) {
                    for (int lit : new int[] {0, 1, last - 1, last}) {
                        for (int init = 0; init <= 1; init++) {
                            String call = "setLatch(" + j + ", " + lit + ", " + init + ")";
                            Due.is(call, x.setLatch(j, lit, init), true);
                            Due.is(call + ", getLatchNext", x.getLatchNext(j), lit);
                            Due.is(call + ", getLatchInit", x.getLatchInit(j), init);
                        }
                    }
                }
            }
        });
    }

    private static void noLatch() {
        Shapes.each((inputs, latches) -> {
            for (InductChecker x : Circuits.inEveryResult(inputs, latches, 2)) {
                for (int latch : Outside.of(0, latches - 1)) {
                    Due.is("setLatch(" + latch + ", 0, 0) of " + latches, x.setLatch(latch, 0, 0), false);
                    Due.is("setLatch(" + latch + ", 1, 1) of " + latches, x.setLatch(latch, 1, 1), false);
                }
            }
        });
    }

    private static void notValid() {
        Shapes.each((inputs, latches) -> {
            for (int gates = 0; gates <= 16; gates++) {
                InductChecker x = Circuits.follower(inputs, latches, gates);
                for (int lit : Outside.ofLiterals(inputs, latches, gates)) {
                    Due.is("setLatch(0, " + lit + ", 0)", x.setLatch(0, lit, 0), false);
                    Due.is("setLatch(" + (latches - 1) + ", " + lit + ", 1)", x.setLatch(latches - 1, lit, 1), false);
                }
            }
        });
    }

    private static void noInit() {
        Shapes.each((inputs, latches) -> {
            for (InductChecker x : Circuits.inEveryResult(inputs, latches, 1)) {
                for (int init : Outside.of(0, 1)) {
                    Due.is("setLatch(0, 0, " + init + ")", x.setLatch(0, 0, init), false);
                    Due.is("setLatch(" + (latches - 1) + ", 1, " + init + ")", x.setLatch(latches - 1, 1, init), false);
                }
            }
        });
    }

    private static void severalHold() {
        Shapes.each((inputs, latches) -> {
            InductChecker x = Circuits.follower(inputs, latches, 3);
            int wrong = Shapes.literals(inputs, latches, 3);
            for (int latch : new int[] {Integer.MIN_VALUE, -1, 0, latches, Integer.MAX_VALUE}) {
                for (int lit : new int[] {Integer.MIN_VALUE, -1, 0, wrong, Integer.MAX_VALUE}) {
                    for (int init : new int[] {Integer.MIN_VALUE, -1, 0, 2, Integer.MAX_VALUE}) {
                        boolean due = latch == 0 && lit == 0 && init == 0;
                        Due.is("setLatch(" + latch + ", " + lit + ", " + init + ")", x.setLatch(latch, lit, init), due);
                    }
                }
            }
        });
    }

    // The other two arguments are right, and differ from what is stored.
    private static void nothingChanged() {
        Shapes.each((inputs, latches) -> {
            int wrong = Shapes.literals(inputs, latches, 2);
            for (InductChecker x : Circuits.inEveryResult(inputs, latches, 2)) {
                Snapshot before = Snapshot.whole(x);
                x.setLatch(-1, 0, 1);
                x.setLatch(latches, 0, 1);
                Due.is("a wrong latch left all", Snapshot.whole(x).isSameAs(before), true);
                for (int j = 0; j < latches; j++) {
                    int other = 1 - x.getLatchInit(j);
                    x.setLatch(j, wrong, other);
                    x.setLatch(j, -1, other);
                    Due.is("a wrong literal left all", Snapshot.whole(x).isSameAs(before), true);
                    x.setLatch(j, 0, 2);
                    x.setLatch(j, 0, -1);
                    Due.is("a wrong init left all", Snapshot.whole(x).isSameAs(before), true);
                }
            }
        });
    }

    private static void replaces() {
        Shapes.each((inputs, latches) -> {
            InductChecker x = new InductChecker(inputs, latches);
            int literals = Shapes.literals(inputs, latches, 0);
            for (int j = 0; j < latches; j++) {
                for (int lit = literals - 1; lit >= 0; lit--) {
                    x.setLatch(j, lit, lit >> 1 & 1);
                    Due.is("getLatchNext(" + j + ")", x.getLatchNext(j), lit);
                    Due.is("getLatchInit(" + j + ")", x.getLatchInit(j), lit >> 1 & 1);
                }
            }
        });
    }

    private static void isNone(InductChecker x) {
        Due.is("getResult()", x.getResult(), 0);
        Due.is("getTraceLength()", x.getTraceLength(), -1);
        Due.is("getTraceInputs(0)", x.getTraceInputs(0), -1);
        Due.is("getTraceState(0)", x.getTraceState(0), -1);
    }

    private static void discards() {
        Shapes.each((inputs, latches) -> {
            for (int j = 0; j < latches; j++) {
                for (InductChecker x : Circuits.inEveryResult(inputs, latches, 1)) {
                    Due.is("setLatch(" + j + ", 1, 1)", x.setLatch(j, 1, 1), true);
                    isNone(x);
                }
            }
        });
    }

    private static void sameValues() {
        Shapes.each((inputs, latches) -> {
            for (int j = 0; j < latches; j++) {
                for (InductChecker x : Circuits.inEveryResult(inputs, latches, 1)) {
                    Due.is("setLatch(" + j + ", as before)",
                        x.setLatch(j, x.getLatchNext(j), x.getLatchInit(j)), true);
                    isNone(x);
                }
                InductChecker fresh = new InductChecker(inputs, latches);
                fresh.check();
                Due.is("setLatch(" + j + ", as made)", fresh.setLatch(j, 2 * (1 + inputs + j), 0), true);
                isNone(fresh);
            }
        });
    }

    // No latch was set before, so that whatever a first setLatch spoils is seen.
    private static void leavesTheRest() {
        Shapes.each((inputs, latches) -> {
            for (int j = 0; j < latches; j++) {
                InductChecker x = Circuits.withGates(inputs, latches, 16);
                x.setBad(3);
                Snapshot before = Snapshot.circuit(x);
                x.setLatch(j, 1, 1);
                Due.is("getBadLit()", x.getBadLit(), 3);
                Due.is("getGateCount()", x.getGateCount(), 16);
                for (int k = 0; k < latches; k++) {
                    Due.is("getLatchNext(" + k + ")", x.getLatchNext(k), k == j ? 1 : 2 * (1 + inputs + k));
                    Due.is("getLatchInit(" + k + ")", x.getLatchInit(k), k == j ? 1 : 0);
                }
                // Once the one latch is set back, only a change of something else would still be seen.
                x.setLatch(j, 2 * (1 + inputs + j), 0);
                Due.is("all but latch " + j + " is left", Snapshot.circuit(x).isSameAs(before), true);
            }
        });
        othersThatWereSet();
    }

    private static void othersThatWereSet() {
        Shapes.each((inputs, latches) -> {
            for (int j = 0; j < latches; j++) {
                InductChecker x = new InductChecker(inputs, latches);
                for (int k = 0; k < latches; k++) {
                    x.setLatch(k, 3, 1);
                }
                x.setLatch(j, 0, 0);
                for (int k = 0; k < latches; k++) {
                    Due.is("getLatchNext(" + k + ")", x.getLatchNext(k), k == j ? 0 : 3);
                    Due.is("getLatchInit(" + k + ")", x.getLatchInit(k), k == j ? 0 : 1);
                }
            }
        });
    }
}
