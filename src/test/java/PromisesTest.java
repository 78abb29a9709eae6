/** Each promise of the document: ordinary inputs, the edges that it names, and wrong inputs. */
public final class PromisesTest {
    private static final int[] OUTSIDE_SIGNALS = {-1, 12, 13, 31, 32, 44, -12, Integer.MIN_VALUE, Integer.MAX_VALUE};
    private static final int[] OUTSIDE_OPERATIONS = {-1, 9, 10, 16, Integer.MIN_VALUE, Integer.MAX_VALUE};
    private static final int[] OUTSIDE_VALUES = {-1, 16, 17, Integer.MIN_VALUE, Integer.MAX_VALUE};
    private static final int[] OUTSIDE_PACKED = {-1, -12, 144, 145, 1000, Integer.MIN_VALUE, Integer.MAX_VALUE};

    private static int wrong = 0;

    private static void due(String call, int got, int want) {
        if (got != want) {
            wrong++;
            System.out.println(call + " answered " + got + ", due is " + want);
        }
    }

    public static void main(String[] args) {
        newObject();
        objectsAreApart();
        wireTakesEveryOperation();
        wireSettlesWhatHangsOnIt();
        wireReplacesFormulas();
        wireRefusesCircles();
        wireRefusesClocks();
        wireRefusesBadNumbers();
        registerKeepsItsValue();
        registerUnpacksClockAndSecond();
        registerTakesEveryOperation();
        registerMayReadItself();
        registerBreaksChains();
        registerRefusesClocks();
        registerChangesItsClock();
        registerRefusesBadNumbers();
        freeKeepsTheValue();
        freeEndsFormulaAndClock();
        freeRefusesBadNumbers();
        setCountsChanges();
        setClocksOnRisingEdgesOnly();
        setClocksWithValuesBefore();
        setRefuses();
        pulseCountsRegisterChanges();
        pulseOnFallingInputs();
        pulseClampsItsNumber();
        pulseRefuses();
        valueAndKind();
        hangingIsTransitiveThroughWires();
        hangingRefusesBadNumbers();
        depthIsTheLongestChain();
        orderOfRefusals();
        refusedCallsChangeNothing();
        System.out.println(wrong == 0 ? "all answers are as due" : wrong + " answers are not as due");
        if (wrong != 0) {
            System.exit(1);
        }
    }

    private static int packed(int clock, int b) {
        return 12 * clock + b;
    }

    private static int formula(int op, int p, int q) {
        int[] table = {p & q, p | q, p ^ q, (p + q) % 16, (p - q + 16) % 16, p < q ? 1 : 0, p, 15 - p, p == 0 ? q : 15 - q};
        return table[op];
    }

    /** All that can be seen of an object, without changing it. */
    private static String seen(EventCircuit x) {
        StringBuilder text = new StringBuilder();
        for (int s = 0; s < 12; s++) {
            text.append(x.kind(s)).append(' ').append(x.value(s)).append(' ').append(x.hanging(s)).append(';');
        }
        return text.append(x.depth()).toString();
    }

    private static void dueSeen(String call, String got, String want) {
        if (!got.equals(want)) {
            wrong++;
            System.out.println("after " + call + " there is " + got + ", due is " + want);
        }
    }

    // Promise 1

    private static void newObject() {
        EventCircuit x = new EventCircuit();
        for (int s = 0; s < 12; s++) {
            due("new: value(" + s + ")", x.value(s), 0);
            due("new: kind(" + s + ")", x.kind(s), 0);
            due("new: hanging(" + s + ")", x.hanging(s), 0);
        }
        due("new: depth()", x.depth(), 0);
    }

    private static void objectsAreApart() {
        EventCircuit x = new EventCircuit();
        EventCircuit y = new EventCircuit();
        x.set(0, 9);
        x.wire(1, EventCircuit.FIRST, 0, 0);
        due("other object: value(0)", y.value(0), 0);
        due("other object: kind(1)", y.kind(1), 0);
        dueSeen("calls on another object", seen(new EventCircuit()), seen(y));
    }

    // Promise 2

    private static void wireTakesEveryOperation() {
        for (int op = 0; op <= 8; op++) {
            for (int p = 0; p < 16; p++) {
                EventCircuit x = new EventCircuit();
                x.wire(11, op, 3, 7);
                x.set(3, p);
                for (int q = 0; q < 16; q++) {
                    x.set(7, q);
                    due("wire op " + op + " of " + p + " and " + q, x.value(11), formula(op, p, q));
                }
            }
        }
    }

    private static void wireSettlesWhatHangsOnIt() {
        EventCircuit x = new EventCircuit();
        // The chain stands against the order of the numbers in one half, with it in the other.
        x.wire(0, EventCircuit.FIRST, 1, 1);
        x.wire(1, EventCircuit.FIRST, 2, 2);
        x.wire(2, EventCircuit.FIRST, 5, 5);
        x.wire(8, EventCircuit.FIRST, 5, 5);
        x.wire(9, EventCircuit.FIRST, 8, 8);
        due("wire(5, NOT, 4, 4)", x.wire(5, EventCircuit.NOT, 4, 4), 15);
        due("settled: value(0)", x.value(0), 15);
        due("settled: value(2)", x.value(2), 15);
        due("settled: value(9)", x.value(9), 15);
        due("kind(5)", x.kind(5), 1);
        due("value(4)", x.value(4), 0);
    }

    private static void wireReplacesFormulas() {
        EventCircuit x = new EventCircuit();
        x.set(0, 6);
        x.set(1, 3);
        due("wire(2, AND)", x.wire(2, EventCircuit.AND, 0, 1), 2);
        due("wire(2, MINUS)", x.wire(2, EventCircuit.MINUS, 1, 0), 13);
        due("set(1, 8)", x.set(1, 8), 2);
        due("value(2)", x.value(2), 2);
        due("register(3, FIRST, 0, clock 4)", x.register(3, EventCircuit.FIRST, 0, packed(4, 0)), 0);
        x.set(4, 1);
        due("value(3)", x.value(3), 6);
        due("wire(3, NOT, 0, 0) from a register", x.wire(3, EventCircuit.NOT, 0, 0), 9);
        due("kind(3)", x.kind(3), 1);
        due("wire(4, ..) after its register has gone", x.wire(4, EventCircuit.FIRST, 3, 3), 9);
    }

    private static void wireRefusesCircles() {
        EventCircuit x = new EventCircuit();
        due("wire(0) on itself by a", x.wire(0, EventCircuit.AND, 0, 1), EventCircuit.CIRCLE);
        due("wire(0) on itself by b", x.wire(0, EventCircuit.AND, 1, 0), EventCircuit.CIRCLE);
        due("wire(0) on itself by an unread b", x.wire(0, EventCircuit.FIRST, 1, 0), EventCircuit.CIRCLE);
        due("kind(0)", x.kind(0), 0);
        x.wire(0, EventCircuit.FIRST, 4, 1);
        x.wire(1, EventCircuit.NOT, 4, 2);
        due("circle of two through an unread b", x.wire(1, EventCircuit.NOT, 4, 0), EventCircuit.CIRCLE);
        due("circle of three by a", x.wire(2, EventCircuit.OR, 0, 5), EventCircuit.CIRCLE);
        due("circle of three by b", x.wire(2, EventCircuit.OR, 5, 0), EventCircuit.CIRCLE);
        due("the refused formula is not kept", x.hanging(2), 3);
        due("no circle through an input", x.wire(3, EventCircuit.OR, 0, 2), 0);
        // A register between wires breaks the circle until it is made a wire again.
        x.register(6, EventCircuit.FIRST, 7, packed(11, 7));
        due("circle through a register", x.wire(7, EventCircuit.FIRST, 6, 6), 0);
        due("the register made a wire", x.wire(6, EventCircuit.FIRST, 7, 7), EventCircuit.CIRCLE);
        due("kind(6)", x.kind(6), 2);
        due("a register that reads itself made a wire", x.wire(6, EventCircuit.PLUS, 6, 8), EventCircuit.CIRCLE);
        due("free(7)", x.free(7), 0);
        due("the circle is open", x.wire(6, EventCircuit.FIRST, 7, 7), 0);
    }

    private static void wireRefusesClocks() {
        EventCircuit x = new EventCircuit();
        x.register(0, EventCircuit.NOT, 0, packed(1, 2));
        due("wire of a clock", x.wire(1, EventCircuit.FIRST, 3, 3), EventCircuit.NOT_INPUT);
        due("kind of the clock", x.kind(1), 0);
        due("wire of b", x.wire(2, EventCircuit.FIRST, 3, 3), 0);
        due("free of the register", x.free(0), 0);
        due("wire of a former clock", x.wire(1, EventCircuit.FIRST, 3, 3), 0);
    }

    private static void wireRefusesBadNumbers() {
        EventCircuit x = new EventCircuit();
        for (int bad : OUTSIDE_SIGNALS) {
            due("wire with s " + bad, x.wire(bad, 0, 1, 2), EventCircuit.BAD);
            due("wire with a " + bad, x.wire(0, 0, bad, 2), EventCircuit.BAD);
            due("wire with b " + bad, x.wire(0, 0, 1, bad), EventCircuit.BAD);
        }
        for (int bad : OUTSIDE_OPERATIONS) {
            due("wire with op " + bad, x.wire(0, bad, 1, 2), EventCircuit.BAD);
        }
        dueSeen("bad wires", seen(x), seen(new EventCircuit()));
    }

    // Promise 3

    private static void registerKeepsItsValue() {
        EventCircuit x = new EventCircuit();
        x.set(0, 5);
        due("register from an input", x.register(0, EventCircuit.NOT, 0, packed(1, 0)), 5);
        due("value(0)", x.value(0), 5);
        due("kind(0)", x.kind(0), 2);
        x.wire(2, EventCircuit.NOT, 0, 0);
        x.wire(3, EventCircuit.NOT, 2, 2);
        due("register from a wire", x.register(2, EventCircuit.FIRST, 4, packed(1, 4)), 10);
        due("the wire on it", x.value(3), 5);
        due("register anew", x.register(0, EventCircuit.PLUS, 0, packed(5, 0)), 5);
        due("set of its former clock", x.set(1, 1), 3);
        due("value(0) by the former clock", x.value(0), 5);
        due("set of its new clock", x.set(5, 1), 2);
        due("value(0) by the new clock", x.value(0), 10);
    }

    private static void registerUnpacksClockAndSecond() {
        for (int clock = 0; clock < 12; clock++) {
            for (int b = 0; b < 12; b++) {
                EventCircuit x = new EventCircuit();
                int s = (clock + 1) % 12;
                int a = (clock + 2) % 12;
                x.set(b, 8);
                due("register with bc " + packed(clock, b), x.register(s, EventCircuit.OR, a, packed(clock, b)), b == s ? 8 : 0);
                x.set(clock, 9);
                due("clocked with bc " + packed(clock, b), x.value(s), 8);
            }
        }
    }

    private static void registerTakesEveryOperation() {
        for (int op = 0; op <= 8; op++) {
            for (int p = 0; p < 16; p++) {
                EventCircuit x = new EventCircuit();
                x.set(3, p);
                x.register(11, op, 3, packed(0, 7));
                for (int q = 0; q < 16; q++) {
                    x.set(7, q);
                    x.set(0, 1);
                    due("register op " + op + " of " + p + " and " + q, x.value(11), formula(op, p, q));
                    x.set(0, 0);
                }
            }
        }
    }

    private static void registerMayReadItself() {
        EventCircuit x = new EventCircuit();
        x.set(1, 3);
        due("register(0, PLUS, 0, clock 2 and 1)", x.register(0, EventCircuit.PLUS, 0, packed(2, 1)), 0);
        x.pulse(2, 1, 6);
        due("value(0)", x.value(0), 2);
        // Its own clock as a and b of its formula is read as before the edge.
        due("register on its clock", x.register(3, EventCircuit.PLUS, 2, packed(2, 2)), 0);
        x.set(2, 4);
        x.set(2, 7);
        due("value(3)", x.value(3), 8);
    }

    private static void registerBreaksChains() {
        EventCircuit x = new EventCircuit();
        x.wire(1, EventCircuit.FIRST, 0, 0);
        x.wire(2, EventCircuit.FIRST, 1, 1);
        x.wire(3, EventCircuit.FIRST, 2, 2);
        x.set(0, 4);
        due("register(2, FIRST, 3)", x.register(2, EventCircuit.FIRST, 3, packed(8, 3)), 4);
        due("hanging(0)", x.hanging(0), 2);
        due("hanging(2)", x.hanging(2), 8);
        due("hanging(3)", x.hanging(3), 0);
        due("depth()", x.depth(), 1);
        due("set(0, 6)", x.set(0, 6), 2);
        due("value(3)", x.value(3), 4);
    }

    private static void registerRefusesClocks() {
        EventCircuit x = new EventCircuit();
        x.wire(0, EventCircuit.FIRST, 1, 1);
        due("register(2) with clock 3", x.register(2, EventCircuit.NOT, 2, packed(3, 2)), 0);
        String had = seen(x);
        due("a wire as clock", x.register(4, EventCircuit.NOT, 4, packed(0, 4)), EventCircuit.NOT_INPUT);
        due("a register as clock", x.register(4, EventCircuit.NOT, 4, packed(2, 4)), EventCircuit.NOT_INPUT);
        due("itself as clock", x.register(4, EventCircuit.NOT, 5, packed(4, 5)), EventCircuit.NOT_INPUT);
        due("a clock as register", x.register(3, EventCircuit.NOT, 4, packed(5, 4)), EventCircuit.NOT_INPUT);
        due("a register with itself as clock", x.register(2, EventCircuit.NOT, 4, packed(2, 4)), EventCircuit.NOT_INPUT);
        dueSeen("refused registers", seen(x), had);
        due("the clock of another as clock", x.register(4, EventCircuit.NOT, 4, packed(3, 4)), 0);
        due("set(3, 1)", x.set(3, 1), 3);
    }

    private static void registerChangesItsClock() {
        EventCircuit x = new EventCircuit();
        x.register(0, EventCircuit.NOT, 0, packed(1, 0));
        due("another clock", x.register(0, EventCircuit.NOT, 0, packed(2, 0)), 0);
        due("the former clock made a wire", x.wire(1, EventCircuit.NOT, 3, 3), 15);
        due("the new clock made a wire", x.wire(2, EventCircuit.NOT, 3, 3), EventCircuit.NOT_INPUT);
        due("wire(0)", x.wire(0, EventCircuit.FIRST, 3, 3), 0);
        due("the clock of no register made a register", x.register(2, EventCircuit.NOT, 3, packed(4, 3)), 0);
    }

    private static void registerRefusesBadNumbers() {
        EventCircuit x = new EventCircuit();
        for (int bad : OUTSIDE_SIGNALS) {
            due("register with s " + bad, x.register(bad, 0, 1, packed(5, 2)), EventCircuit.BAD);
            due("register with a " + bad, x.register(0, 0, bad, packed(5, 2)), EventCircuit.BAD);
        }
        for (int bad : OUTSIDE_OPERATIONS) {
            due("register with op " + bad, x.register(0, bad, 1, packed(5, 2)), EventCircuit.BAD);
        }
        for (int bad : OUTSIDE_PACKED) {
            due("register with bc " + bad, x.register(3, 0, 1, bad), EventCircuit.BAD);
        }
        dueSeen("bad registers", seen(x), seen(new EventCircuit()));
        due("register with bc 143", x.register(0, 0, 1, 143), 0);
        due("register with bc 0 is NOT_INPUT for s 0", x.register(0, 0, 1, 0), EventCircuit.NOT_INPUT);
        due("register with bc 5", x.register(3, 0, 1, 5), EventCircuit.NOT_INPUT);
    }

    // Promise 4

    private static void freeKeepsTheValue() {
        EventCircuit x = new EventCircuit();
        x.wire(1, EventCircuit.NOT, 0, 0);
        x.wire(2, EventCircuit.NOT, 1, 1);
        due("free of a wire", x.free(1), 15);
        due("kind(1)", x.kind(1), 0);
        due("value(1)", x.value(1), 15);
        due("set(0, 3)", x.set(0, 3), 1);
        due("value(1) stays", x.value(1), 15);
        due("set(1, 4)", x.set(1, 4), 2);
        due("value(2)", x.value(2), 11);
        due("free of an input", x.free(0), 3);
        due("kind(0)", x.kind(0), 0);
    }

    private static void freeEndsFormulaAndClock() {
        EventCircuit x = new EventCircuit();
        x.register(0, EventCircuit.NOT, 0, packed(1, 0));
        x.set(1, 1);
        due("free of a clock", x.free(1), 1);
        due("it is still a clock", x.wire(1, EventCircuit.NOT, 2, 2), EventCircuit.NOT_INPUT);
        due("free of a register", x.free(0), 15);
        due("kind(0)", x.kind(0), 0);
        x.set(1, 0);
        due("set of the former clock", x.set(1, 1), 1);
        due("value(0)", x.value(0), 15);
        due("set(0, 2)", x.set(0, 2), 1);
        due("the former clock made a register", x.register(1, EventCircuit.NOT, 1, packed(0, 1)), 1);
        due("a freed signal as clock", x.set(0, 3), 2);
    }

    private static void freeRefusesBadNumbers() {
        EventCircuit x = new EventCircuit();
        for (int bad : OUTSIDE_SIGNALS) {
            due("free(" + bad + ")", x.free(bad), EventCircuit.BAD);
        }
    }

    // Promise 5

    private static void setCountsChanges() {
        EventCircuit x = new EventCircuit();
        due("set(0, 0) of 0", x.set(0, 0), 0);
        due("set(0, 15)", x.set(0, 15), 1);
        due("set(0, 15) again", x.set(0, 15), 0);
        x.wire(1, EventCircuit.AND, 0, 2);
        x.wire(3, EventCircuit.NOT, 0, 0);
        x.wire(4, EventCircuit.XOR, 0, 3);
        due("set(0, 7): the others do not change", x.set(0, 7), 2);
        due("value(4)", x.value(4), 15);
        due("set(2, 8)", x.set(2, 8), 1);
        due("set(2, 3)", x.set(2, 3), 2);
    }

    private static void setClocksOnRisingEdgesOnly() {
        for (int from = 0; from < 16; from++) {
            for (int to = 0; to < 16; to++) {
                EventCircuit x = new EventCircuit();
                x.set(1, from);
                x.register(0, EventCircuit.NOT, 0, packed(1, 0));
                boolean rises = from % 2 == 0 && to % 2 == 1;
                due("edge " + from + " to " + to, x.set(1, to), (from == to ? 0 : 1) + (rises ? 1 : 0));
                due("register after edge " + from + " to " + to, x.value(0), rises ? 15 : 0);
            }
        }
    }

    private static void setClocksWithValuesBefore() {
        EventCircuit x = new EventCircuit();
        // Two registers that change places, and a wire on the clock that a register reads.
        x.set(0, 3);
        x.set(1, 12);
        x.register(0, EventCircuit.FIRST, 1, packed(11, 1));
        x.register(1, EventCircuit.FIRST, 0, packed(11, 0));
        x.wire(2, EventCircuit.PLUS, 11, 0);
        x.register(3, EventCircuit.FIRST, 2, packed(11, 2));
        x.register(4, EventCircuit.NOT, 4, packed(10, 4));
        due("set(11, 1)", x.set(11, 1), 5);
        due("value(0)", x.value(0), 12);
        due("value(1)", x.value(1), 3);
        due("value(2) settles with the new values", x.value(2), 13);
        due("value(3) is of the wire as it was", x.value(3), 3);
        due("value(4) has another clock", x.value(4), 0);
        // Registers that change places by the second signals of their formulas.
        x.register(5, EventCircuit.OR, 8, packed(7, 6));
        x.register(6, EventCircuit.NOT, 5, packed(7, 5));
        due("set(7, 1)", x.set(7, 1), 2);
        due("value(5) by b as it was", x.value(5), 0);
        due("value(6)", x.value(6), 15);
        x.set(7, 0);
        x.register(6, EventCircuit.XOR, 8, packed(7, 5));
        due("set(7, 1)", x.set(7, 1), 3);
        due("value(5) by b as it was", x.value(5), 15);
        due("value(6) by b as it was", x.value(6), 0);
        // An input that is no clock clocks nothing, though it goes to an odd number.
        due("set(9, 1)", x.set(9, 1), 1);
    }

    private static void setRefuses() {
        EventCircuit x = new EventCircuit();
        x.wire(0, EventCircuit.NOT, 1, 1);
        x.register(2, EventCircuit.NOT, 2, packed(3, 2));
        String had = seen(x);
        for (int bad : OUTSIDE_SIGNALS) {
            due("set(" + bad + ", 1)", x.set(bad, 1), EventCircuit.BAD);
        }
        for (int bad : OUTSIDE_VALUES) {
            due("set(3, " + bad + ")", x.set(3, bad), EventCircuit.BAD);
        }
        due("set of a wire", x.set(0, 3), EventCircuit.NOT_INPUT);
        due("set of a wire to its value", x.set(0, 15), EventCircuit.NOT_INPUT);
        due("set of a register", x.set(2, 3), EventCircuit.NOT_INPUT);
        dueSeen("refused sets", seen(x), had);
    }

    // Promise 6

    private static void pulseCountsRegisterChanges() {
        EventCircuit x = new EventCircuit();
        x.set(9, 1);
        x.register(0, EventCircuit.PLUS, 0, packed(11, 9));
        x.register(1, EventCircuit.FIRST, 2, packed(11, 2));
        x.wire(3, EventCircuit.NOT, 0, 0);
        due("pulse(11, 1, 1)", x.pulse(11, 1, 1), 1);
        due("value(11) is the former one", x.value(11), 0);
        due("value(0)", x.value(0), 1);
        due("value(3)", x.value(3), 14);
        x.set(2, 7);
        due("pulse(11, 15, 3)", x.pulse(11, 15, 3), 4);
        due("value(0)", x.value(0), 4);
        due("pulse to an even number", x.pulse(11, 14, 5), 0);
        due("pulse to the same number", x.pulse(11, 0, 5), 0);
        due("pulse of no clock", x.pulse(8, 1, 5), 0);
        due("value(0) stays", x.value(0), 4);
    }

    private static void pulseOnFallingInputs() {
        EventCircuit x = new EventCircuit();
        x.set(11, 5);
        x.register(0, EventCircuit.FIRST, 1, packed(11, 1));
        x.wire(1, EventCircuit.NOT, 11, 11);
        due("the way back rises", x.pulse(11, 2, 2), 1);
        due("value(0) is taken while the input is 2", x.value(0), 13);
        due("value(1)", x.value(1), 10);
        due("value(11)", x.value(11), 5);
        due("odd to odd", x.pulse(11, 7, 16), 0);
    }

    private static void pulseClampsItsNumber() {
        int[] numbers = {Integer.MIN_VALUE, -1, 0, 1, 2, 15, 16, 17, 18, 1000, Integer.MAX_VALUE};
        for (int n : numbers) {
            EventCircuit x = new EventCircuit();
            x.set(9, 3);
            x.register(0, EventCircuit.PLUS, 0, packed(11, 9));
            int times = Math.max(0, Math.min(16, n));
            due("pulse(11, 1, " + n + ")", x.pulse(11, 1, n), times);
            due("value(0) after n " + n, x.value(0), 3 * times % 16);
            due("value(11) after n " + n, x.value(11), 0);
        }
    }

    private static void pulseRefuses() {
        EventCircuit x = new EventCircuit();
        x.wire(0, EventCircuit.NOT, 1, 1);
        x.register(2, EventCircuit.NOT, 2, packed(3, 2));
        String had = seen(x);
        for (int n = -1; n <= 3; n++) {
            for (int bad : OUTSIDE_SIGNALS) {
                due("pulse(" + bad + ", 1, " + n + ")", x.pulse(bad, 1, n), EventCircuit.BAD);
            }
            for (int bad : OUTSIDE_VALUES) {
                due("pulse(3, " + bad + ", " + n + ")", x.pulse(3, bad, n), EventCircuit.BAD);
            }
            due("pulse of a wire, n " + n, x.pulse(0, 1, n), EventCircuit.NOT_INPUT);
            due("pulse of a register, n " + n, x.pulse(2, 1, n), EventCircuit.NOT_INPUT);
        }
        dueSeen("refused pulses", seen(x), had);
    }

    // Promises 7 and 8

    private static void valueAndKind() {
        EventCircuit x = new EventCircuit();
        for (int s = 0; s < 12; s++) {
            x.set(s, s + 4);
        }
        for (int s = 0; s < 12; s++) {
            due("value(" + s + ")", x.value(s), s + 4);
        }
        x.wire(0, EventCircuit.NOT, 1, 1);
        x.register(11, EventCircuit.NOT, 1, packed(10, 1));
        due("value(0)", x.value(0), 10);
        due("value(11)", x.value(11), 15);
        for (int s = 0; s < 12; s++) {
            due("kind(" + s + ")", x.kind(s), s == 0 ? 1 : s == 11 ? 2 : 0);
        }
        for (int bad : OUTSIDE_SIGNALS) {
            due("value(" + bad + ")", x.value(bad), EventCircuit.BAD);
            due("kind(" + bad + ")", x.kind(bad), EventCircuit.BAD);
        }
    }

    // Promise 9

    private static void hangingIsTransitiveThroughWires() {
        EventCircuit x = new EventCircuit();
        x.wire(1, EventCircuit.FIRST, 0, 11);
        x.wire(2, EventCircuit.NOT, 10, 1);
        x.register(3, EventCircuit.FIRST, 2, packed(9, 2));
        x.wire(4, EventCircuit.AND, 3, 3);
        due("hanging(0)", x.hanging(0), 1 << 1 | 1 << 2);
        due("hanging(11), an unread b", x.hanging(11), 1 << 1 | 1 << 2);
        due("hanging(10)", x.hanging(10), 1 << 2);
        due("hanging(1)", x.hanging(1), 1 << 2);
        due("hanging(2): registers do not hang", x.hanging(2), 0);
        due("hanging(3): on a register", x.hanging(3), 1 << 4);
        due("hanging(9): a clock", x.hanging(9), 0);
        x.free(1);
        due("hanging(0) without its wire", x.hanging(0), 0);
        due("hanging(1) as an input", x.hanging(1), 1 << 2);
        chainAgainstTheNumbers();
    }

    private static void chainAgainstTheNumbers() {
        EventCircuit up = new EventCircuit();
        EventCircuit down = new EventCircuit();
        for (int w = 1; w < 12; w++) {
            up.wire(w, EventCircuit.FIRST, w - 1, w - 1);
            down.wire(11 - w, EventCircuit.FIRST, 12 - w, 12 - w);
        }
        due("chain up: hanging(0)", up.hanging(0), 4094);
        due("chain up: depth()", up.depth(), 11);
        due("chain up: set(0, 9)", up.set(0, 9), 12);
        due("chain up: value(11)", up.value(11), 9);
        due("chain down: hanging(11)", down.hanging(11), 2047);
        due("chain down: depth()", down.depth(), 11);
        due("chain down: set(11, 9)", down.set(11, 9), 12);
        due("chain down: value(0)", down.value(0), 9);
        due("chain up: circle", up.wire(0, EventCircuit.FIRST, 11, 11), EventCircuit.CIRCLE);
        due("chain down: circle", down.wire(11, EventCircuit.FIRST, 0, 0), EventCircuit.CIRCLE);
    }

    private static void hangingRefusesBadNumbers() {
        EventCircuit x = new EventCircuit();
        x.wire(1, EventCircuit.FIRST, 0, 0);
        for (int bad : OUTSIDE_SIGNALS) {
            due("hanging(" + bad + ")", x.hanging(bad), EventCircuit.BAD);
        }
    }

    // Promise 10

    private static void depthIsTheLongestChain() {
        EventCircuit x = new EventCircuit();
        x.wire(0, EventCircuit.FIRST, 9, 9);
        x.wire(1, EventCircuit.FIRST, 9, 9);
        x.wire(2, EventCircuit.FIRST, 9, 9);
        due("three wires apart", x.depth(), 1);
        x.wire(3, EventCircuit.AND, 0, 1);
        due("two layers", x.depth(), 2);
        x.wire(4, EventCircuit.AND, 2, 3);
        due("three layers, by b", x.depth(), 3);
        x.wire(5, EventCircuit.NOT, 9, 4);
        due("four layers, by an unread b", x.depth(), 4);
        x.wire(6, EventCircuit.OR, 5, 0);
        due("a long and a short way", x.depth(), 5);
        x.register(3, EventCircuit.FIRST, 6, packed(8, 6));
        due("a register is no wire of the list", x.depth(), 4);
        for (int s = 0; s < 7; s++) {
            x.free(s);
        }
        due("no wires", x.depth(), 0);
    }

    // Promise 11

    private static void orderOfRefusals() {
        EventCircuit x = new EventCircuit();
        x.register(0, EventCircuit.NOT, 0, packed(1, 0));
        x.wire(2, EventCircuit.FIRST, 1, 1);
        due("wire: BAD before NOT_INPUT", x.wire(1, 9, 2, 2), EventCircuit.BAD);
        due("wire: BAD before CIRCLE", x.wire(2, 9, 2, 2), EventCircuit.BAD);
        due("wire: BAD b before CIRCLE", x.wire(2, 0, 2, 12), EventCircuit.BAD);
        due("wire: NOT_INPUT before CIRCLE", x.wire(1, 0, 2, 2), EventCircuit.NOT_INPUT);
        due("wire: NOT_INPUT before CIRCLE of one", x.wire(1, 0, 1, 1), EventCircuit.NOT_INPUT);
        due("register: BAD op before NOT_INPUT", x.register(1, 9, 0, packed(5, 0)), EventCircuit.BAD);
        due("register: BAD a before NOT_INPUT", x.register(5, 0, 12, packed(2, 0)), EventCircuit.BAD);
        due("register: BAD bc before NOT_INPUT", x.register(1, 0, 0, 144), EventCircuit.BAD);
        due("set: BAD before NOT_INPUT", x.set(2, 16), EventCircuit.BAD);
        due("pulse: BAD before NOT_INPUT", x.pulse(0, -1, 1), EventCircuit.BAD);
    }

    private static void refusedCallsChangeNothing() {
        EventCircuit x = new EventCircuit();
        x.register(0, EventCircuit.PLUS, 0, packed(1, 4));
        x.set(4, 3);
        x.wire(2, EventCircuit.XOR, 0, 4);
        x.wire(3, EventCircuit.MINUS, 2, 0);
        String had = seen(x);
        x.wire(1, EventCircuit.NOT, 5, 5);
        x.wire(2, EventCircuit.NOT, 3, 3);
        x.wire(2, 9, 5, 5);
        x.register(0, EventCircuit.NOT, 5, packed(0, 5));
        x.register(0, EventCircuit.NOT, 5, packed(2, 5));
        x.register(0, EventCircuit.NOT, 5, -1);
        x.register(1, EventCircuit.NOT, 5, packed(6, 5));
        x.set(2, 1);
        x.set(1, 17);
        x.pulse(0, 1, 3);
        x.pulse(1, 17, 3);
        dueSeen("refused calls", seen(x), had);
        // The formulas and the clock are as they were, too.
        due("set(1, 1)", x.set(1, 1), 4);
        due("value(0)", x.value(0), 3);
        due("value(2)", x.value(2), 0);
        due("value(3)", x.value(3), 13);
    }
}
