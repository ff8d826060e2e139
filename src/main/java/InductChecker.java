/**
 * A safety model checker for a small circuit of inputs, latches and and-gates:
 * can some sequence of inputs drive it from its initial state to a bad step?
 */
public final class InductChecker {
    public static final int REFUSED = -1;
    public static final int NONE = 0;
    public static final int SAFE = 1;
    public static final int UNSAFE = 2;
    public static final int MAX_INPUTS = 3;
    public static final int MIN_LATCHES = 1;
    public static final int MAX_LATCHES = 4;
    public static final int MAX_GATES = 16;
    public static final int MAX_TRACE_STEPS = 16;

    private static final int MAX_STATES = 16;
    private static final int FAR = -1;
    private static final int NOT_FOUND = -1;

    private final int inputCount;
    private final int latchCount;

    private int gateCount;
    private final int[] gateLeft = new int[MAX_GATES];
    private final int[] gateRight = new int[MAX_GATES];
    private final int[] latchNext = new int[MAX_LATCHES];
    private final int[] latchInit = new int[MAX_LATCHES];
    private int badLit;

    private int result;

    // The three trace fields have a meaning only while the result is UNSAFE,
    // so a change of the result is all it takes to discard a trace.
    private int traceLength;
    private final int[] traceInputs = new int[MAX_TRACE_STEPS];
    private final int[] traceStates = new int[MAX_TRACE_STEPS];

    // For each state the least number of steps to a bad step, or FAR if there
    // is no way; check() works it out anew each time.
    private final int[] distances = new int[MAX_STATES];

    public InductChecker(int inputs, int latches) {
        inputCount = clamp(inputs, 0, MAX_INPUTS);
        latchCount = clamp(latches, MIN_LATCHES, MAX_LATCHES);
        gateCount = 0;
        for (int latch = 0; latch < latchCount; latch++) {
            latchNext[latch] = 2 * (1 + inputCount + latch);
            latchInit[latch] = 0;
        }
        badLit = 0;
        result = NONE;
    }

    public int addAnd(int left, int right) {
        if (gateCount >= MAX_GATES || !isValid(left) || !isValid(right)) {
            return REFUSED;
        }
        int literal = 2 * variableCount();
        gateLeft[gateCount] = left;
        gateRight[gateCount] = right;
        gateCount++;
        result = NONE;
        return literal;
    }

    public boolean setLatch(int latch, int nextLit, int init) {
        if (!isLatch(latch) || !isValid(nextLit) || (init != 0 && init != 1)) {
            return false;
        }
        latchNext[latch] = nextLit;
        latchInit[latch] = init;
        result = NONE;
        return true;
    }

    public boolean setBad(int lit) {
        if (!isValid(lit)) {
            return false;
        }
        badLit = lit;
        result = NONE;
        return true;
    }

    public int check() {
        measureDistances();
        int start = initialState();
        if (distances[start] == FAR) {
            result = SAFE;
        } else {
            storeTrace(start);
            result = UNSAFE;
        }
        return result;
    }

    public int getResult() {
        return result;
    }

    public int getTraceLength() {
        return result == UNSAFE ? traceLength : REFUSED;
    }

    public int getTraceInputs(int step) {
        return isTraceStep(step) ? traceInputs[step] : REFUSED;
    }

    public int getTraceState(int step) {
        return isTraceStep(step) ? traceStates[step] : REFUSED;
    }

    public int evalLit(int lit, int state, int inputs) {
        if (!isValid(lit)) {
            return REFUSED;
        }
        int values = variableValues(state, inputs);
        return literalValue(lit, values);
    }

    public int getGateCount() {
        return gateCount;
    }

    public int getInputCount() {
        return inputCount;
    }

    public int getLatchCount() {
        return latchCount;
    }

    public int getLatchNext(int latch) {
        return isLatch(latch) ? latchNext[latch] : REFUSED;
    }

    public int getLatchInit(int latch) {
        return isLatch(latch) ? latchInit[latch] : REFUSED;
    }

    public int getBadLit() {
        return badLit;
    }

    private static int clamp(int value, int least, int greatest) {
        if (value < least) {
            return least;
        }
        return value > greatest ? greatest : value;
    }

    private int variableCount() {
        return 1 + inputCount + latchCount + gateCount;
    }

    private boolean isValid(int lit) {
        return lit >= 0 && lit < 2 * variableCount();
    }

    private boolean isLatch(int latch) {
        return latch >= 0 && latch < latchCount;
    }

    private boolean isTraceStep(int step) {
        return result == UNSAFE && step >= 0 && step <= traceLength;
    }

    // All variables fit in one int, variable v at bit v: at most 24 of them
    // (the constant, 3 inputs, 4 latches, 16 gates).
    private int variableValues(int state, int inputs) {
        int firstLatch = 1 + inputCount;
        int firstGate = firstLatch + latchCount;
        int inputBits = inputs & ((1 << inputCount) - 1);
        int latchBits = state & ((1 << latchCount) - 1);
        int values = (inputBits << 1) | (latchBits << firstLatch);
        for (int gate = 0; gate < gateCount; gate++) {
            int left = literalValue(gateLeft[gate], values);
            int right = literalValue(gateRight[gate], values);
            values |= (left & right) << (firstGate + gate);
        }
        return values;
    }

    private static int literalValue(int lit, int values) {
        return ((values >> (lit >> 1)) ^ lit) & 1;
    }

    private int initialState() {
        int state = 0;
        for (int latch = 0; latch < latchCount; latch++) {
            state |= latchInit[latch] << latch;
        }
        return state;
    }

    private int nextState(int values) {
        int state = 0;
        for (int latch = 0; latch < latchCount; latch++) {
            state |= literalValue(latchNext[latch], values) << latch;
        }
        return state;
    }

    // A shortest way to a bad step visits no state twice, so distances below
    // the number of states are all there are.
    private void measureDistances() {
        int stateCount = 1 << latchCount;
        for (int state = 0; state < stateCount; state++) {
            distances[state] = FAR;
        }
        for (int distance = 0; distance < stateCount; distance++) {
            for (int state = 0; state < stateCount; state++) {
                if (distances[state] == FAR && leastInputs(state, distance) != NOT_FOUND) {
                    distances[state] = distance;
                }
            }
        }
    }

    // The least input vector that is bad at once (distance 0) or leads to a
    // state one step nearer to a bad step.
    private int leastInputs(int state, int distance) {
        int vectorCount = 1 << inputCount;
        for (int inputs = 0; inputs < vectorCount; inputs++) {
            int values = variableValues(state, inputs);
            boolean fits;
            if (distance == 0) {
                fits = literalValue(badLit, values) == 1;
            } else {
                fits = distances[nextState(values)] == distance - 1;
            }
            if (fits) {
                return inputs;
            }
        }
        return NOT_FOUND;
    }

    // Every step of a shortest counterexample comes one nearer to a bad step,
    // so the least inputs that do so, step by step, are the least sequence.
    private void storeTrace(int start) {
        int length = distances[start];
        int state = start;
        for (int step = 0; step <= length; step++) {
            int inputs = leastInputs(state, length - step);
            traceStates[step] = state;
            traceInputs[step] = inputs;
            int values = variableValues(state, inputs);
            state = nextState(values);
        }
        traceLength = length;
    }
}
