/**
 * Promise 11 and the refusals of every other promise: each code, the order in which the codes are
 * tested where more than one would apply, and that a refused call changes nothing.
 */
public final class RefusalTest {
    private static final int XOR = EventCircuit.XOR;
    private static final int PLUS = EventCircuit.PLUS;
    private static final int MINUS = EventCircuit.MINUS;
    private static final int LESS = EventCircuit.LESS;
    private static final int FIRST = EventCircuit.FIRST;
    private static final int NOT = EventCircuit.NOT;
    private static final int CHOOSE = EventCircuit.CHOOSE;
    private static final int BAD = EventCircuit.BAD;
    private static final int CIRCLE = EventCircuit.CIRCLE;
    private static final int NOT_INPUT = EventCircuit.NOT_INPUT;

    private static final int[] NO_SIGNALS = {-1, 12, -12, 24, 268, Integer.MIN_VALUE, Integer.MAX_VALUE};
    private static final int[] NO_OPERATIONS = {-1, 9, -9, 15, 16, 263, Integer.MIN_VALUE, Integer.MAX_VALUE};
    private static final int[] NO_VALUES = {-1, 16, -16, 31, 257, Integer.MIN_VALUE, Integer.MAX_VALUE};
    private static final int[] NO_PACKED = {-1, -11, -12, -13, 144, 155, 156, 287, 400, Integer.MIN_VALUE, Integer.MAX_VALUE};
    private static final int[] NUMBERS_OF_PULSES = {-1, 0, 1, 16, 17};

    // What the signals of every circuit here are.
    private static final int INPUT = 0;
    private static final int OTHER_INPUT = 1;
    private static final int LAST_INPUT = 2;
    private static final int WIRE = 3;
    private static final int NEXT_WIRE = 4;
    private static final int REGISTER = 5;
    private static final int OTHER_REGISTER = 6;
    private static final int THIRD_REGISTER = 7;
    private static final int THIRD_WIRE = 8;
    private static final int FOURTH_WIRE = 9;
    private static final int EVEN_CLOCK = 10;
    private static final int ODD_CLOCK = 11;

    private static int wrong = 0;

    private interface Call {
        int on(EventCircuit x);
    }

    public static void main(String[] args) {
        wireIsBad();
        wireIsNotOfAClock();
        wireIsNoCircle();
        wireOrder();
        registerIsBad();
        registerIsNotInput();
        registerOrder();
        freeIsBad();
        setIsRefused();
        setOrder();
        pulseIsRefused();
        pulseOrder();
        readingIsBad();
        readingChangesNothing();
        refusalsInARowChangeNothing();
        System.out.println(wrong == 0 ? "all refusals are as due" : wrong + " refusals are not as due");
        if (wrong != 0) {
            System.exit(1);
        }
    }

    private static int packed(int clock, int b) {
        return 12 * clock + b;
    }

    /** A circuit with something of each kind, where each formula and each clock shows in goesOn. */
    private static EventCircuit circuit() {
        EventCircuit x = new EventCircuit();
        x.set(INPUT, 5);
        x.set(OTHER_INPUT, 6);
        x.set(LAST_INPUT, 9);
        x.set(ODD_CLOCK, 3);
        x.set(REGISTER, 4);
        x.set(OTHER_REGISTER, 13);
        x.wire(WIRE, XOR, INPUT, OTHER_INPUT);
        x.wire(NEXT_WIRE, PLUS, WIRE, REGISTER);
        x.register(REGISTER, PLUS, REGISTER, packed(EVEN_CLOCK, INPUT));
        x.register(OTHER_REGISTER, MINUS, NEXT_WIRE, packed(ODD_CLOCK, OTHER_REGISTER));
        x.register(THIRD_REGISTER, CHOOSE, WIRE, packed(EVEN_CLOCK, LAST_INPUT));
        x.wire(THIRD_WIRE, NOT, OTHER_REGISTER, NEXT_WIRE);
        x.wire(FOURTH_WIRE, LESS, THIRD_WIRE, LAST_INPUT);
        return x;
    }

    private static void readAll(EventCircuit x, StringBuilder text) {
        for (int s = 0; s < 12; s++) {
            text.append(x.kind(s)).append(' ').append(x.value(s)).append(' ').append(x.hanging(s)).append("; ");
        }
        text.append(x.depth()).append('\n');
    }

    /** What an object shows and how it goes on, so that formulas and clocks show, too. */
    private static String goesOn(EventCircuit x) {
        StringBuilder text = new StringBuilder();
        readAll(x, text);
        int[] inputs = {EVEN_CLOCK, ODD_CLOCK, INPUT, OTHER_INPUT, LAST_INPUT, EVEN_CLOCK, ODD_CLOCK};
        for (int s : inputs) {
            for (int value = 0; value < 4; value++) {
                text.append(x.set(s, 5 * value)).append(':');
                for (int i = WIRE; i <= FOURTH_WIRE; i++) {
                    text.append(' ').append(x.value(i));
                }
                text.append('\n');
            }
        }
        // Which inputs are clocks, and what is left when they are none any more.
        for (int s = 0; s < 12; s++) {
            text.append(x.wire(s, NOT, (s + 1) % 12, (s + 1) % 12)).append(' ');
        }
        for (int s = 0; s < 12; s++) {
            text.append(x.free(s)).append(' ');
        }
        readAll(x, text);
        return text.toString();
    }

    private static void due(String words, int got, int want) {
        if (got != want) {
            wrong++;
            System.out.println(words + " answered " + got + ", due is " + want);
        }
    }

    private static void refused(String words, int code, Call call) {
        changesNothing(words, code, call);
    }

    /** The call answers as is due, and an object that it was made on goes on like one without it. */
    private static void changesNothing(String words, int answer, Call call) {
        EventCircuit x = circuit();
        due(words, call.on(x), answer);
        String want = goesOn(circuit());
        String seen = goesOn(x);
        if (!seen.equals(want)) {
            wrong++;
            System.out.println(words + " changed something: there is\n" + seen + "due is\n" + want);
        }
    }

    private static void accepted(String words, int answer, Call call) {
        due(words, call.on(circuit()), answer);
    }

    // wire

    private static void wireIsBad() {
        for (int bad : NO_SIGNALS) {
            refused("wire with s " + bad, BAD, x -> x.wire(bad, NOT, INPUT, OTHER_INPUT));
            refused("wire with a " + bad, BAD, x -> x.wire(LAST_INPUT, NOT, bad, OTHER_INPUT));
            refused("wire with b " + bad, BAD, x -> x.wire(LAST_INPUT, NOT, OTHER_INPUT, bad));
            refused("wire of a wire with a " + bad, BAD, x -> x.wire(WIRE, NOT, bad, OTHER_INPUT));
            refused("wire of a register with b " + bad, BAD, x -> x.wire(REGISTER, NOT, OTHER_INPUT, bad));
            refused("wire with s, a and b " + bad, BAD, x -> x.wire(bad, NOT, bad, bad));
        }
        for (int bad : NO_OPERATIONS) {
            refused("wire with op " + bad, BAD, x -> x.wire(LAST_INPUT, bad, INPUT, OTHER_INPUT));
            refused("wire of a wire with op " + bad, BAD, x -> x.wire(WIRE, bad, INPUT, LAST_INPUT));
            refused("wire of a register with op " + bad, BAD, x -> x.wire(REGISTER, bad, INPUT, LAST_INPUT));
        }
    }

    private static void wireIsNotOfAClock() {
        for (int op = 0; op <= 8; op++) {
            int operation = op;
            refused("wire of an even clock, op " + op, NOT_INPUT, x -> x.wire(EVEN_CLOCK, operation, INPUT, OTHER_INPUT));
            refused("wire of an odd clock, op " + op, NOT_INPUT, x -> x.wire(ODD_CLOCK, operation, INPUT, OTHER_INPUT));
        }
        accepted("wire of a signal of a register's formula", 9, x -> x.wire(INPUT, FIRST, LAST_INPUT, LAST_INPUT));
        accepted("wire of a register", 9, x -> x.wire(THIRD_REGISTER, FIRST, LAST_INPUT, LAST_INPUT));
    }

    private static void wireIsNoCircle() {
        refused("wire of an input on itself, by a", CIRCLE, x -> x.wire(INPUT, NOT, INPUT, LAST_INPUT));
        refused("wire of an input on itself, by b", CIRCLE, x -> x.wire(INPUT, NOT, LAST_INPUT, INPUT));
        refused("wire of a wire on itself", CIRCLE, x -> x.wire(WIRE, NOT, WIRE, WIRE));
        refused("wire of a register on itself", CIRCLE, x -> x.wire(REGISTER, PLUS, REGISTER, INPUT));
        refused("wire of an input on its wire", CIRCLE, x -> x.wire(INPUT, NOT, WIRE, WIRE));
        refused("wire of an input on a wire of its wire", CIRCLE, x -> x.wire(OTHER_INPUT, NOT, LAST_INPUT, NEXT_WIRE));
        refused("wire of an input at the end of an unread b", CIRCLE, x -> x.wire(INPUT, NOT, FOURTH_WIRE, LAST_INPUT));
        refused("wire of a wire on the next", CIRCLE, x -> x.wire(WIRE, NOT, NEXT_WIRE, INPUT));
        refused("wire of a wire on the last", CIRCLE, x -> x.wire(WIRE, NOT, INPUT, FOURTH_WIRE));
        refused("wire of a register on a wire of it", CIRCLE, x -> x.wire(REGISTER, NOT, NEXT_WIRE, INPUT));
        refused("wire of a register on a wire that hangs on it", CIRCLE, x -> x.wire(OTHER_REGISTER, NOT, INPUT, FOURTH_WIRE));
        accepted("wire on a register of a formula with it", 0, x -> x.wire(WIRE, FIRST, THIRD_REGISTER, OTHER_INPUT));
        accepted("wire of the last wire on all before", 7, x -> x.wire(FOURTH_WIRE, FIRST, NEXT_WIRE, THIRD_WIRE));
    }

    private static void wireOrder() {
        for (int bad : NO_OPERATIONS) {
            refused("wire: BAD op before NOT_INPUT", BAD, x -> x.wire(EVEN_CLOCK, bad, INPUT, INPUT));
            refused("wire: BAD op before CIRCLE", BAD, x -> x.wire(WIRE, bad, NEXT_WIRE, NEXT_WIRE));
            refused("wire: BAD op before both", BAD, x -> x.wire(EVEN_CLOCK, bad, EVEN_CLOCK, EVEN_CLOCK));
        }
        for (int bad : NO_SIGNALS) {
            refused("wire: BAD a before NOT_INPUT", BAD, x -> x.wire(ODD_CLOCK, NOT, bad, INPUT));
            refused("wire: BAD b before NOT_INPUT", BAD, x -> x.wire(ODD_CLOCK, NOT, INPUT, bad));
            refused("wire: BAD a before CIRCLE", BAD, x -> x.wire(WIRE, NOT, bad, WIRE));
            refused("wire: BAD b before CIRCLE", BAD, x -> x.wire(WIRE, NOT, NEXT_WIRE, bad));
            refused("wire: BAD a before both", BAD, x -> x.wire(ODD_CLOCK, NOT, bad, ODD_CLOCK));
            refused("wire: BAD b before both", BAD, x -> x.wire(ODD_CLOCK, NOT, ODD_CLOCK, bad));
        }
        refused("wire: NOT_INPUT before CIRCLE, by a", NOT_INPUT, x -> x.wire(EVEN_CLOCK, NOT, EVEN_CLOCK, INPUT));
        refused("wire: NOT_INPUT before CIRCLE, by b", NOT_INPUT, x -> x.wire(ODD_CLOCK, NOT, INPUT, ODD_CLOCK));
        EventCircuit x = circuit();
        x.wire(LAST_INPUT, FIRST, EVEN_CLOCK, EVEN_CLOCK);
        due("wire: NOT_INPUT before a longer CIRCLE", x.wire(EVEN_CLOCK, FIRST, LAST_INPUT, FOURTH_WIRE), NOT_INPUT);
    }

    // register

    private static void registerIsBad() {
        for (int bad : NO_SIGNALS) {
            refused("register with s " + bad, BAD, x -> x.register(bad, NOT, INPUT, packed(OTHER_INPUT, INPUT)));
            refused("register with a " + bad, BAD, x -> x.register(LAST_INPUT, NOT, bad, packed(OTHER_INPUT, INPUT)));
            refused("register of a wire with a " + bad, BAD, x -> x.register(WIRE, NOT, bad, packed(OTHER_INPUT, INPUT)));
            refused("register anew with a " + bad, BAD, x -> x.register(REGISTER, NOT, bad, packed(OTHER_INPUT, INPUT)));
        }
        for (int bad : NO_OPERATIONS) {
            refused("register with op " + bad, BAD, x -> x.register(LAST_INPUT, bad, INPUT, packed(OTHER_INPUT, INPUT)));
            refused("register anew with op " + bad, BAD, x -> x.register(REGISTER, bad, INPUT, packed(OTHER_INPUT, INPUT)));
        }
        for (int bad : NO_PACKED) {
            refused("register with bc " + bad, BAD, x -> x.register(LAST_INPUT, NOT, INPUT, bad));
            refused("register of a wire with bc " + bad, BAD, x -> x.register(WIRE, NOT, INPUT, bad));
            refused("register anew with bc " + bad, BAD, x -> x.register(REGISTER, NOT, INPUT, bad));
        }
    }

    private static void registerIsNotInput() {
        refused("register with a wire as clock", NOT_INPUT, x -> x.register(LAST_INPUT, NOT, INPUT, packed(WIRE, INPUT)));
        refused("register with a register as clock", NOT_INPUT, x -> x.register(LAST_INPUT, NOT, INPUT, packed(REGISTER, INPUT)));
        refused("register anew with a wire as clock", NOT_INPUT, x -> x.register(REGISTER, NOT, INPUT, packed(FOURTH_WIRE, INPUT)));
        refused("register anew with a register as clock", NOT_INPUT, x -> x.register(REGISTER, NOT, INPUT, packed(OTHER_REGISTER, INPUT)));
        refused("register of an input with itself as clock", NOT_INPUT, x -> x.register(INPUT, NOT, OTHER_INPUT, packed(INPUT, OTHER_INPUT)));
        refused("register of a wire with itself as clock", NOT_INPUT, x -> x.register(WIRE, NOT, INPUT, packed(WIRE, INPUT)));
        refused("register anew with itself as clock", NOT_INPUT, x -> x.register(REGISTER, NOT, INPUT, packed(REGISTER, INPUT)));
        refused("register of an even clock", NOT_INPUT, x -> x.register(EVEN_CLOCK, NOT, INPUT, packed(OTHER_INPUT, INPUT)));
        refused("register of an odd clock", NOT_INPUT, x -> x.register(ODD_CLOCK, NOT, INPUT, packed(EVEN_CLOCK, INPUT)));
        refused("register of a clock with a wire as clock", NOT_INPUT, x -> x.register(ODD_CLOCK, NOT, INPUT, packed(WIRE, INPUT)));
        accepted("register with another's clock", 9, x -> x.register(LAST_INPUT, NOT, INPUT, packed(ODD_CLOCK, INPUT)));
        accepted("register anew with its clock in its formula", 4, x -> x.register(REGISTER, NOT, EVEN_CLOCK, packed(EVEN_CLOCK, EVEN_CLOCK)));
    }

    private static void registerOrder() {
        for (int bad : NO_OPERATIONS) {
            refused("register: BAD op before a clock that is a wire", BAD, x -> x.register(INPUT, bad, INPUT, packed(WIRE, INPUT)));
            refused("register: BAD op before itself as clock", BAD, x -> x.register(INPUT, bad, INPUT, packed(INPUT, INPUT)));
            refused("register: BAD op before s being a clock", BAD, x -> x.register(EVEN_CLOCK, bad, INPUT, packed(INPUT, INPUT)));
        }
        for (int bad : NO_SIGNALS) {
            refused("register: BAD s before a clock that is a wire", BAD, x -> x.register(bad, NOT, INPUT, packed(WIRE, INPUT)));
            refused("register: BAD a before a clock that is a register", BAD, x -> x.register(INPUT, NOT, bad, packed(REGISTER, INPUT)));
            refused("register: BAD a before itself as clock", BAD, x -> x.register(INPUT, NOT, bad, packed(INPUT, INPUT)));
            refused("register: BAD a before s being a clock", BAD, x -> x.register(ODD_CLOCK, NOT, bad, packed(INPUT, INPUT)));
        }
        for (int bad : NO_PACKED) {
            refused("register: BAD bc before s being a clock", BAD, x -> x.register(EVEN_CLOCK, NOT, INPUT, bad));
            refused("register: BAD bc before itself as clock", BAD, x -> x.register(0, NOT, OTHER_INPUT, bad));
        }
    }

    // free, set and pulse

    private static void freeIsBad() {
        for (int bad : NO_SIGNALS) {
            refused("free(" + bad + ")", BAD, x -> x.free(bad));
        }
        freeIsBadWithoutInputsAtTheEnds();
    }

    // The first and the last signal are inputs above, where a free that reaches them would not show.
    private static void freeIsBadWithoutInputsAtTheEnds() {
        EventCircuit x = new EventCircuit();
        for (int s = 0; s < 12; s++) {
            if (s % 2 == 0 && s != 6) {
                x.wire(s, NOT, 6, 6);
            } else if (s != 6) {
                x.register(s, NOT, s, packed(6, s));
            }
        }
        for (int bad : NO_SIGNALS) {
            due("free(" + bad + ")", x.free(bad), BAD);
            for (int s = 0; s < 12; s++) {
                due("kind(" + s + ") after free(" + bad + ")", x.kind(s), s == 6 ? 0 : s % 2 + 1);
            }
        }
    }

    private static void setIsRefused() {
        for (int bad : NO_SIGNALS) {
            refused("set(" + bad + ", 1)", BAD, x -> x.set(bad, 1));
        }
        for (int bad : NO_VALUES) {
            refused("set of an input to " + bad, BAD, x -> x.set(INPUT, bad));
            refused("set of an even clock to " + bad, BAD, x -> x.set(EVEN_CLOCK, bad));
        }
        for (int value = 0; value <= 15; value++) {
            int to = value;
            refused("set of a wire to " + to, NOT_INPUT, x -> x.set(WIRE, to));
            refused("set of a register to " + to, NOT_INPUT, x -> x.set(REGISTER, to));
        }
    }

    private static void setOrder() {
        for (int bad : NO_VALUES) {
            refused("set: BAD before NOT_INPUT of a wire", BAD, x -> x.set(FOURTH_WIRE, bad));
            refused("set: BAD before NOT_INPUT of a register", BAD, x -> x.set(THIRD_REGISTER, bad));
            refused("set: BAD for both numbers", BAD, x -> x.set(12, bad));
        }
    }

    private static void pulseIsRefused() {
        for (int n : NUMBERS_OF_PULSES) {
            for (int bad : NO_SIGNALS) {
                refused("pulse(" + bad + ", 1, " + n + ")", BAD, x -> x.pulse(bad, 1, n));
            }
            for (int bad : NO_VALUES) {
                refused("pulse of a clock to " + bad + ", n " + n, BAD, x -> x.pulse(EVEN_CLOCK, bad, n));
            }
            for (int value = 0; value <= 15; value++) {
                int to = value;
                refused("pulse of a wire to " + to + ", n " + n, NOT_INPUT, x -> x.pulse(NEXT_WIRE, to, n));
                refused("pulse of a register to " + to + ", n " + n, NOT_INPUT, x -> x.pulse(OTHER_REGISTER, to, n));
            }
        }
    }

    private static void pulseOrder() {
        for (int n : NUMBERS_OF_PULSES) {
            for (int bad : NO_VALUES) {
                refused("pulse: BAD before NOT_INPUT of a wire, n " + n, BAD, x -> x.pulse(THIRD_WIRE, bad, n));
                refused("pulse: BAD before NOT_INPUT of a register, n " + n, BAD, x -> x.pulse(REGISTER, bad, n));
                refused("pulse: BAD for both numbers, n " + n, BAD, x -> x.pulse(12, bad, n));
            }
        }
    }

    // value, kind, hanging and depth

    private static void readingIsBad() {
        for (int bad : NO_SIGNALS) {
            refused("value(" + bad + ")", BAD, x -> x.value(bad));
            refused("kind(" + bad + ")", BAD, x -> x.kind(bad));
            refused("hanging(" + bad + ")", BAD, x -> x.hanging(bad));
        }
    }

    private static void readingChangesNothing() {
        int[] values = {5, 6, 9, 3, 7, 4, 13, 0, 2, 1, 0, 3};
        int[] kinds = {0, 0, 0, 1, 1, 2, 2, 2, 1, 1, 0, 0};
        int[] hanging = {0x318, 0x318, 0x200, 0x310, 0x300, 0x310, 0x300, 0, 0x200, 0, 0, 0};
        for (int i = 0; i < 12; i++) {
            int s = i;
            changesNothing("value(" + s + ")", values[s], x -> x.value(s));
            changesNothing("kind(" + s + ")", kinds[s], x -> x.kind(s));
            changesNothing("hanging(" + s + ")", hanging[s], x -> x.hanging(s));
        }
        changesNothing("depth()", 4, x -> x.depth());
    }

    private static void refusalsInARowChangeNothing() {
        refused("the last of many refused calls", CIRCLE, x -> {
            for (int i = 0; i < 5; i++) {
                x.wire(EVEN_CLOCK, NOT, INPUT, INPUT);
                x.register(REGISTER, NOT, INPUT, packed(WIRE, INPUT));
                x.register(ODD_CLOCK, NOT, INPUT, packed(INPUT, INPUT));
                x.set(WIRE, 1);
                x.set(EVEN_CLOCK, 17);
                x.pulse(REGISTER, 1, 16);
                x.pulse(EVEN_CLOCK, -1, 16);
                x.free(12);
            }
            return x.wire(WIRE, NOT, NEXT_WIRE, NEXT_WIRE);
        });
    }
}
