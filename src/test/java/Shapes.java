/** All sixteen shapes that a circuit can have: 0 to 3 inputs with 1 to 4 latches. */
final class Shapes {
    interface Test {
        void on(int inputs, int latches);
    }

    private Shapes() {
    }

    static void each(Test test) {
        for (int inputs = 0; inputs <= 3; inputs++) {
            for (int latches = 1; latches <= 4; latches++) {
                test.on(inputs, latches);
            }
        }
    }

    /** The number of literals that are VALID in a circuit of that shape with so many gates. */
    static int literals(int inputs, int latches, int gates) {
        return 2 * (1 + inputs + latches + gates);
    }
}
