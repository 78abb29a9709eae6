/** A circuit of wires and clocked registers, simulated by events. */
public final class EventCircuit {
    public static final int AND = 0;
    public static final int OR = 1;
    public static final int XOR = 2;
    public static final int PLUS = 3;
    public static final int MINUS = 4;
    public static final int LESS = 5;
    public static final int FIRST = 6;
    public static final int NOT = 7;
    public static final int CHOOSE = 8;
    public static final int BAD = -1;
    public static final int CIRCLE = -2;
    public static final int NOT_INPUT = -3;

    private static final int SIGNALS = 12;
    private static final int GREATEST = 15;
    private static final int MOST_PULSES = 16;

    private static final int INPUT = 0;
    private static final int WIRE = 1;
    private static final int REGISTER = 2;

    private final int[] kinds = new int[SIGNALS];
    private final int[] values = new int[SIGNALS];

    // Read only where the kind says that the signal has a formula or a clock,
    // so that a change of kind need not clear them.
    private final int[] operations = new int[SIGNALS];
    private final int[] firsts = new int[SIGNALS];
    private final int[] seconds = new int[SIGNALS];
    private final int[] clocks = new int[SIGNALS];

    // The values as they were before the newest change of an input: registers
    // that take over together must not see one another's new values.
    private final int[] before = new int[SIGNALS];

    /** All signals are inputs with the value 0. */
    public EventCircuit() {
        // INPUT is 0, so the new arrays hold that state already.
    }

    /** Makes signal s a wire; answers its settled value, BAD, NOT_INPUT or CIRCLE. */
    public int wire(int s, int op, int a, int b) {
        if (!isSignal(s) || !isOperation(op) || !isSignal(a) || !isSignal(b)) {
            return BAD;
        }
        if (isClock(s)) {
            return NOT_INPUT;
        }
        if (wouldCircle(s, a, b)) {
            return CIRCLE;
        }
        kinds[s] = WIRE;
        putFormula(s, op, a, b);
        settle();
        return values[s];
    }

    /** Makes signal s a register, with bc = 12 * clock + b; answers its value, BAD or NOT_INPUT. */
    public int register(int s, int op, int a, int bc) {
        if (!isSignal(s) || !isOperation(op) || !isSignal(a) || bc < 0 || bc >= SIGNALS * SIGNALS) {
            return BAD;
        }
        int clock = bc / SIGNALS;
        int b = bc % SIGNALS;
        if (kinds[clock] != INPUT || clock == s || isClock(s)) {
            return NOT_INPUT;
        }
        // No settling here or in free: the value stays, so no wire sees a change.
        kinds[s] = REGISTER;
        putFormula(s, op, a, b);
        clocks[s] = clock;
        return values[s];
    }

    /** Makes signal s an input that keeps its value; answers the value or BAD. */
    public int free(int s) {
        if (!isSignal(s)) {
            return BAD;
        }
        kinds[s] = INPUT;
        return values[s];
    }

    /** Sets an input; answers how many signals have another value afterwards, BAD or NOT_INPUT. */
    public int set(int s, int value) {
        int refusal = refusalOfSetting(s, value);
        if (refusal != 0) {
            return refusal;
        }
        changeInput(s, value);
        int changed = 0;
        for (int i = 0; i < SIGNALS; i++) {
            if (values[i] != before[i]) {
                changed++;
            }
        }
        return changed;
    }

    /** Sets an input to value and back, n times; answers how often a register changed, BAD or NOT_INPUT. */
    public int pulse(int s, int value, int n) {
        int refusal = refusalOfSetting(s, value);
        if (refusal != 0) {
            return refusal;
        }
        int former = values[s];
        int changes = 0;
        for (int i = 0; i < MOST_PULSES && i < n; i++) {
            changeInput(s, value);
            changes += changedRegisters();
            // The way back is a rising edge, too, when the former value is odd.
            changeInput(s, former);
            changes += changedRegisters();
        }
        return changes;
    }

    /** The value of signal s, or BAD. */
    public int value(int s) {
        return isSignal(s) ? values[s] : BAD;
    }

    /** 0 for an input, 1 for a wire, 2 for a register, or BAD. */
    public int kind(int s) {
        return isSignal(s) ? kinds[s] : BAD;
    }

    /** The set of the wires that hang on s, as bits, or BAD. */
    public int hanging(int s) {
        return isSignal(s) ? wiresOn(s) : BAD;
    }

    /** The number of wires in the longest chain of wires. */
    public int depth() {
        int left = allWires();
        int layers = 0;
        // Each round leaves the wires that read a wire left, which shortens
        // every longest chain by just one.
        for (int round = 0; round < SIGNALS && left != 0; round++) {
            left = wiresReading(left);
            layers++;
        }
        return layers;
    }

    private static boolean isSignal(int s) {
        return s >= 0 && s < SIGNALS;
    }

    private static boolean isOperation(int op) {
        return op >= AND && op <= CHOOSE;
    }

    private boolean isClock(int s) {
        for (int r = 0; r < SIGNALS; r++) {
            if (kinds[r] == REGISTER && clocks[r] == s) {
                return true;
            }
        }
        return false;
    }

    private boolean wouldCircle(int s, int a, int b) {
        // Only s gets a new formula, so a new circle must run through s.
        int circling = wiresOn(s) | (1 << s);
        int read = (1 << a) | (1 << b);
        return (circling & read) != 0;
    }

    private void putFormula(int s, int op, int a, int b) {
        operations[s] = op;
        firsts[s] = a;
        seconds[s] = b;
    }

    // 0 if the input may be set: every refusal is a code below 0.
    private int refusalOfSetting(int s, int value) {
        if (!isSignal(s) || value < 0 || value > GREATEST) {
            return BAD;
        }
        return kinds[s] == INPUT ? 0 : NOT_INPUT;
    }

    private void changeInput(int s, int value) {
        for (int i = 0; i < SIGNALS; i++) {
            before[i] = values[i];
        }
        boolean rises = (before[s] & 1) == 0 && (value & 1) == 1;
        if (rises) {
            clockRegisters(s);
        }
        values[s] = value;
        settle();
    }

    private void clockRegisters(int clock) {
        for (int r = 0; r < SIGNALS; r++) {
            if (kinds[r] == REGISTER && clocks[r] == clock) {
                values[r] = result(operations[r], before[firsts[r]], before[seconds[r]]);
            }
        }
    }

    private int changedRegisters() {
        int changed = 0;
        for (int r = 0; r < SIGNALS; r++) {
            if (kinds[r] == REGISTER && values[r] != before[r]) {
                changed++;
            }
        }
        return changed;
    }

    private void settle() {
        // No chain of wires is longer than SIGNALS, and each round makes at
        // least the next wire of every chain right, in whatever order they stand.
        for (int round = 0; round < SIGNALS; round++) {
            for (int w = 0; w < SIGNALS; w++) {
                if (kinds[w] == WIRE) {
                    values[w] = result(operations[w], values[firsts[w]], values[seconds[w]]);
                }
            }
        }
    }

    private static int result(int op, int p, int q) {
        switch (op) {
            case AND:
                return p & q;
            case OR:
                return p | q;
            case XOR:
                return p ^ q;
            case PLUS:
                return (p + q) & GREATEST;
            case MINUS:
                return (p - q) & GREATEST;
            case LESS:
                return p < q ? 1 : 0;
            case FIRST:
                return p;
            case NOT:
                return GREATEST - p;
            default:
                // CHOOSE: no other operation gets past isOperation.
                return p == 0 ? q : GREATEST - q;
        }
    }

    private int allWires() {
        int wires = 0;
        for (int w = 0; w < SIGNALS; w++) {
            if (kinds[w] == WIRE) {
                wires |= 1 << w;
            }
        }
        return wires;
    }

    // The wires that have a signal of the given set as a or b, whether or not
    // their operation looks at it.
    private int wiresReading(int signals) {
        int readers = 0;
        for (int w = 0; w < SIGNALS; w++) {
            if (kinds[w] == WIRE) {
                int read = (1 << firsts[w]) | (1 << seconds[w]);
                readers |= (read & signals) != 0 ? 1 << w : 0;
            }
        }
        return readers;
    }

    private int wiresOn(int s) {
        int found = 0;
        // Registers and inputs never enter the set, so nothing is reached through them.
        for (int round = 0; round < SIGNALS; round++) {
            found = wiresReading(found | (1 << s));
        }
        return found;
    }
}
