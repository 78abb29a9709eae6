/**
 * Every sentence of the document that names a boundary case, each with a test of its own: the
 * numbers just inside, just outside and far outside a range, what is empty or full, what wraps
 * around. RefusalTest has the codes, their order, and that a refused call changes nothing.
 */
public final class BoundaryTest {
    private static final int AND = EventCircuit.AND;
    private static final int OR = EventCircuit.OR;
    private static final int XOR = EventCircuit.XOR;
    private static final int PLUS = EventCircuit.PLUS;
    private static final int MINUS = EventCircuit.MINUS;
    private static final int LESS = EventCircuit.LESS;
    private static final int FIRST = EventCircuit.FIRST;
    private static final int NOT = EventCircuit.NOT;
    private static final int CHOOSE = EventCircuit.CHOOSE;
    private static final int BAD = EventCircuit.BAD;
    private static final int CIRCLE = EventCircuit.CIRCLE;
    private static final int NOT_INPUT = EventCircuit.NOT_INPUT;

    // Far numbers have in-range numbers in their low bits, or by a remainder: one that is
    // narrowed, masked or divided before it is looked at would pass for a right one.
    private static final int[] FAR = {
        24, 100, 144, 256, 257, 1000, 65536, 65537, 1 << 30, Integer.MAX_VALUE - 1, Integer.MAX_VALUE,
        -11, -12, -13, -24, -144, -256, -65536, Integer.MIN_VALUE, Integer.MIN_VALUE + 1};

    private static int wrong = 0;
    private static String sentence = "";

    private static void due(String call, int got, int want) {
        if (got != want) {
            wrong++;
            System.out.println("[" + sentence + "] " + call + " answered " + got + ", due is " + want);
        }
    }

    private static void test(String words, Runnable calls) {
        sentence = words;
        try {
            calls.run();
        } catch (RuntimeException | StackOverflowError thrown) {
            wrong++;
            System.out.println("[" + sentence + "] a call threw " + thrown);
        }
    }

    public static void main(String[] args) {
        terms();
        promise1();
        promise2();
        promise3();
        promise4();
        promise5();
        promise6();
        promises7And8();
        promise9();
        promise10();
        limits();
        System.out.println(wrong == 0 ? "all answers are as due" : wrong + " answers are not as due");
        if (wrong != 0) {
            System.exit(1);
        }
    }

    private static void terms() {
        test("Terms: each with a value from 0 to 15", BoundaryTest::valuesStayInRange);
        test("Terms: signals a and b (which may be any signals)", BoundaryTest::anySignalsInFormulas);
        test("Terms: AND p & q, OR p | q, XOR p ^ q", BoundaryTest::bitsOfZeroAndFifteen);
        test("Terms: PLUS (p + q) & 15", BoundaryTest::plusWraps);
        test("Terms: MINUS (p - q) & 15", BoundaryTest::minusWraps);
        test("Terms: LESS 1 if p < q else 0", BoundaryTest::lessAtEqual);
        test("Terms: FIRST p, NOT 15 - p", BoundaryTest::firstAndNotAtTheEnds);
        test("Terms: CHOOSE: q if p is 0, else 15 - q", BoundaryTest::chooseAtZero);
        test("Terms: if the input's value goes from an even to an odd number", BoundaryTest::everyStepOfAClock);
        test("Terms: as they were before the change", BoundaryTest::registersSeeValuesBefore);
        test("Terms: all these registers at once", BoundaryTest::registersTakeOverAtOnce);
        test("Terms: every register whose clock this input is", BoundaryTest::onlyTheClocksOwnRegisters);
        test("Terms: with the new values of the input and the registers, the wires settle", BoundaryTest::wiresSeeNewRegisters);
        test("Terms: when a signal is made a wire .. registers keep their values", BoundaryTest::makingIsNoEdge);
        test("Terms: when formulas change, wires settle, too", BoundaryTest::longestChainSettles);
    }

    private static void promise1() {
        test("Promise 1: all signals are inputs with the value 0", BoundaryTest::newObjectIsEmpty);
    }

    private static void promise2() {
        test("Promise 2: op outside 0..8, or s, a or b outside 0..11: BAD", BoundaryTest::wireAroundEveryRange);
        test("Promise 2: op outside 0..8: BAD (far)", () -> farIsBad(8, (x, far) -> x.wire(3, far, 4, 5)));
        test("Promise 2: s outside 0..11: BAD (far)", () -> farIsBad(11, (x, far) -> x.wire(far, AND, 4, 5)));
        test("Promise 2: a outside 0..11: BAD (far)", () -> farIsBad(11, (x, far) -> x.wire(3, AND, far, 5)));
        test("Promise 2: b outside 0..11: BAD (far)", () -> farIsBad(11, (x, far) -> x.wire(3, AND, 4, far)));
        test("Promise 2: some register has s as its clock: NOT_INPUT", BoundaryTest::wireOnAnyClock);
        test("Promise 2: .. only as long as a register has it", BoundaryTest::wireOnAFormerClock);
        test("Promise 2: a wire would hang on itself: CIRCLE (a or b is s)", BoundaryTest::smallestCircle);
        test("Promise 2: a wire would hang on itself: CIRCLE (any length)", BoundaryTest::circlesOfEveryLength);
        test("Promise 2: a wire would hang on itself: CIRCLE (full)", BoundaryTest::lastInputStaysOne);
        test("Promise 2: .. no circle through a register or an old formula", BoundaryTest::noCircle);
        test("Promise 2: answers the value that s has when the wires have settled", BoundaryTest::wireAnswersSettledValue);
    }

    private static void promise3() {
        test("Promise 3: op outside 0..8, s or a outside 0..11: BAD", BoundaryTest::registerAroundEveryRange);
        test("Promise 3: bc outside 0..143: BAD", BoundaryTest::packedAroundItsRange);
        test("Promise 3: op outside 0..8: BAD (far)", () -> farIsBad(8, (x, far) -> x.register(3, far, 4, packed(6, 5))));
        test("Promise 3: s outside 0..11: BAD (far)", () -> farIsBad(11, (x, far) -> x.register(far, AND, 4, packed(6, 5))));
        test("Promise 3: a outside 0..11: BAD (far)", () -> farIsBad(11, (x, far) -> x.register(3, AND, far, packed(6, 5))));
        test("Promise 3: bc outside 0..143: BAD (far)", () -> farIsBad(143, (x, far) -> x.register(3, AND, 4, far)));
        test("Promise 3: bc is 12 * c + b", BoundaryTest::packedIsClockAndSecond);
        test("Promise 3: c is not an input: NOT_INPUT", BoundaryTest::clockMustBeInput);
        test("Promise 3: c is s: NOT_INPUT", BoundaryTest::clockMustBeAnother);
        test("Promise 3: some register has s as its clock: NOT_INPUT", BoundaryTest::registerOnAnyClock);
        test("Promise 3: its value stays as it is", BoundaryTest::registerKeepsEveryValue);
        test("Promise 3: .. under a clock that is odd already", BoundaryTest::oddClockIsNoEdge);
        test("Promise 3: .. a register may read itself and a circle", BoundaryTest::registersMayCircle);
    }

    private static void promise4() {
        test("Promise 4: s outside 0..11: BAD", () -> signalRange(x -> x::free, 0));
        test("Promise 4: makes signal s an input that keeps its present value", BoundaryTest::freeKeepsEveryValue);
        test("Promise 4: .. of an input, and of a clock", BoundaryTest::freeOfAnInput);
        test("Promise 4: .. and the clock of a register that is gone is free", BoundaryTest::freeEndsTheClock);
    }

    private static void promise5() {
        test("Promise 5: s outside 0..11: BAD", () -> signalRange(x -> s -> x.set(s, 1), 1));
        test("Promise 5: value outside 0..15: BAD", BoundaryTest::setAroundItsValues);
        test("Promise 5: value outside 0..15: BAD (far)", () -> farIsBad(15, (x, far) -> x.set(3, far)));
        test("Promise 5: s is not an input: NOT_INPUT", BoundaryTest::setOnlyInputs);
        test("Promise 5: the number of signals whose value is not the same (none)", BoundaryTest::setToTheSame);
        test("Promise 5: the number of signals whose value is not the same (s alone)", BoundaryTest::setChangesOneAlone);
        test("Promise 5: the number of signals whose value is not the same (all)", BoundaryTest::setChangesAll);
    }

    private static void promise6() {
        test("Promise 6: n clamped into 0..16", BoundaryTest::pulseClamps);
        test("Promise 6: each register each time", BoundaryTest::pulseCountsAll);
        test("Promise 6: .. counts registers alone, and only changes", BoundaryTest::pulseCountsNothingElse);
        test("Promise 6: to value and then to its former value", BoundaryTest::everyPulse);
        test("Promise 6: BAD as in set (s)", () -> signalRange(x -> s -> x.pulse(s, 1, 1), 0));
        test("Promise 6: BAD as in set (value)", BoundaryTest::pulseAroundItsValues);
        test("Promise 6: BAD as in set (value, far)", () -> farIsBad(15, (x, far) -> x.pulse(3, far, 1)));
        test("Promise 6: NOT_INPUT as in set", BoundaryTest::pulseOnlyInputs);
        test("Promise 6: BAD and NOT_INPUT as in set (no pulse at all)", BoundaryTest::noPulseIsRefusedToo);
    }

    private static void promises7And8() {
        test("Promise 7: BAD for s outside 0..11", () -> signalRange(x -> x::value, 0));
        test("Promise 7: the value of a signal", BoundaryTest::valueOfEverySignal);
        test("Promise 8: BAD for s outside 0..11", () -> signalRange(x -> x::kind, 0));
        test("Promise 8: 0 for an input, 1 for a wire, 2 for a register", BoundaryTest::kindOfEverySignal);
    }

    private static void promise9() {
        test("Promise 9: BAD for s outside 0..11", () -> signalRange(x -> x::hanging, 0));
        test("Promise 9: bit w speaks of signal w", BoundaryTest::hangingBits);
        test("Promise 9: the set of the signals that are wires and hang on s (empty)", BoundaryTest::nothingHangs);
        test("Promise 9: the set of the signals that are wires and hang on s (full)", BoundaryTest::allHang);
        test("Promise 9: .. on a and b of its formula", BoundaryTest::wiresHangOnBoth);
        test("Promise 9: .. and on whatever wires among them hang on", BoundaryTest::hangingEndsAtRegisters);
    }

    private static void promise10() {
        test("Promise 10: 0 if there are no wires", BoundaryTest::depthWithoutWires);
        test("Promise 10: the number of wires in the longest list (one)", BoundaryTest::depthOfWiresApart);
        test("Promise 10: the number of wires in the longest list (every length)", BoundaryTest::depthOfEveryChain);
        test("Promise 10: .. as a or b of its formula", BoundaryTest::depthByAOrB);
        test("Promise 10: .. the longest of several", BoundaryTest::depthOfTheLongest);
    }

    private static void limits() {
        test("What it is: an object is used for at most 512 calls", BoundaryTest::lastCallsCount);
    }

    /** A call with the one number that is looked at. */
    private interface CallWith {
        int answer(EventCircuit x, int number);
    }

    private interface OneNumber {
        int answer(int number);
    }

    private interface OneNumberOf {
        OneNumber on(EventCircuit x);
    }

    private static int packed(int clock, int b) {
        return 12 * clock + b;
    }

    private static boolean inside(int number, int greatest) {
        return number >= 0 && number <= greatest;
    }

    private static void farIsBad(int greatest, CallWith call) {
        EventCircuit x = new EventCircuit();
        for (int far : FAR) {
            if (!inside(far, greatest)) {
                due("with " + far, call.answer(x, far), BAD);
            }
        }
        due("with " + -1, call.answer(x, -1), BAD);
        due("with " + (greatest + 1), call.answer(x, greatest + 1), BAD);
    }

    /** A call with a signal alone: BAD outside 0..11, and the given answer on a new object inside. */
    private static void signalRange(OneNumberOf call, int answer) {
        for (int s = -30; s <= 160; s++) {
            due("with s " + s, call.on(new EventCircuit()).answer(s), inside(s, 11) ? answer : BAD);
        }
        farIsBad(11, (x, far) -> call.on(x).answer(far));
    }

    /** A wire 2 of the operation over inputs 0 and 1 with the values p and q. */
    private static int formula(int op, int p, int q) {
        EventCircuit x = new EventCircuit();
        x.set(0, p);
        x.set(1, q);
        int made = x.wire(2, op, 0, 1);
        EventCircuit y = new EventCircuit();
        y.wire(2, op, 0, 1);
        y.set(1, q);
        y.set(0, p);
        due("op " + op + " set to " + p + " and " + q + ", beside wire's own answer", y.value(2), made);
        EventCircuit z = new EventCircuit();
        z.set(0, p);
        z.set(1, q);
        z.register(2, op, 0, packed(3, 1));
        z.set(3, 1);
        due("op " + op + " taken over of " + p + " and " + q + ", beside wire's answer", z.value(2), made);
        return made;
    }

    // Terms

    private static void valuesStayInRange() {
        for (int op = 0; op <= 8; op++) {
            for (int p = 0; p <= 15; p++) {
                for (int q = 0; q <= 15; q++) {
                    int got = formula(op, p, q);
                    due("op " + op + " of " + p + " and " + q + " in 0..15", inside(got, 15) ? 1 : 0, 1);
                }
            }
        }
    }

    private static void anySignalsInFormulas() {
        EventCircuit x = new EventCircuit();
        x.set(0, 6);
        due("an input twice", x.wire(1, PLUS, 0, 0), 12);
        due("a wire twice", x.wire(2, PLUS, 1, 1), 8);
        x.set(3, 5);
        due("a register of itself twice", x.register(3, PLUS, 3, packed(4, 3)), 5);
        due("a register as a and b", x.wire(5, XOR, 3, 3), 0);
        due("an input and a register", x.wire(6, MINUS, 0, 3), 1);
        due("a register of its clock twice", x.register(7, PLUS, 4, packed(4, 4)), 0);
        due("signals 0 and 11", x.wire(8, OR, 0, 11), 6);
        due("signals 11 and 0", x.wire(9, LESS, 11, 0), 1);
        due("register of a wire and the last signal", x.register(10, MINUS, 2, packed(4, 11)), 0);
        due("set(4, 1)", x.set(4, 1), 4);
        due("value(3)", x.value(3), 10);
        due("value(6)", x.value(6), 12);
        due("value(7)", x.value(7), 0);
        due("value(10)", x.value(10), 8);
    }

    private static void bitsOfZeroAndFifteen() {
        due("0 AND 15", formula(AND, 0, 15), 0);
        due("15 AND 15", formula(AND, 15, 15), 15);
        due("10 AND 12", formula(AND, 10, 12), 8);
        due("0 OR 0", formula(OR, 0, 0), 0);
        due("0 OR 15", formula(OR, 0, 15), 15);
        due("10 OR 12", formula(OR, 10, 12), 14);
        due("15 XOR 15", formula(XOR, 15, 15), 0);
        due("15 XOR 0", formula(XOR, 15, 0), 15);
        due("10 XOR 12", formula(XOR, 10, 12), 6);
    }

    private static void plusWraps() {
        due("0 + 0", formula(PLUS, 0, 0), 0);
        due("0 + 15", formula(PLUS, 0, 15), 15);
        due("7 + 8", formula(PLUS, 7, 8), 15);
        due("8 + 8", formula(PLUS, 8, 8), 0);
        due("15 + 1", formula(PLUS, 15, 1), 0);
        due("1 + 15", formula(PLUS, 1, 15), 0);
        due("15 + 2", formula(PLUS, 15, 2), 1);
        due("15 + 15", formula(PLUS, 15, 15), 14);
    }

    private static void minusWraps() {
        due("0 - 0", formula(MINUS, 0, 0), 0);
        due("15 - 15", formula(MINUS, 15, 15), 0);
        due("15 - 0", formula(MINUS, 15, 0), 15);
        due("0 - 1", formula(MINUS, 0, 1), 15);
        due("0 - 15", formula(MINUS, 0, 15), 1);
        due("14 - 15", formula(MINUS, 14, 15), 15);
        due("8 - 7", formula(MINUS, 8, 7), 1);
        due("7 - 8", formula(MINUS, 7, 8), 15);
    }

    private static void lessAtEqual() {
        for (int p = 0; p <= 15; p++) {
            for (int q = 0; q <= 15; q++) {
                due(p + " < " + q, formula(LESS, p, q), p < q ? 1 : 0);
            }
        }
    }

    private static void firstAndNotAtTheEnds() {
        for (int q = 0; q <= 15; q++) {
            due("FIRST of 0 and " + q, formula(FIRST, 0, q), 0);
            due("FIRST of 15 and " + q, formula(FIRST, 15, q), 15);
            due("NOT of 0 and " + q, formula(NOT, 0, q), 15);
            due("NOT of 15 and " + q, formula(NOT, 15, q), 0);
            due("NOT of 7 and " + q, formula(NOT, 7, q), 8);
        }
    }

    private static void chooseAtZero() {
        for (int q = 0; q <= 15; q++) {
            due("CHOOSE of 0 and " + q, formula(CHOOSE, 0, q), q);
            for (int p = 1; p <= 15; p++) {
                due("CHOOSE of " + p + " and " + q, formula(CHOOSE, p, q), 15 - q);
            }
        }
    }

    private static void everyStepOfAClock() {
        for (int from = 0; from <= 15; from++) {
            for (int to = 0; to <= 15; to++) {
                EventCircuit x = new EventCircuit();
                x.set(11, from);
                x.register(0, NOT, 0, packed(11, 0));
                boolean rises = from % 2 == 0 && to % 2 == 1;
                String step = "clock from " + from + " to " + to;
                due(step + ", changes", x.set(11, to), (from == to ? 0 : 1) + (rises ? 1 : 0));
                due(step + ", register", x.value(0), rises ? 15 : 0);
            }
        }
    }

    private static void registersSeeValuesBefore() {
        for (int from = 0; from <= 14; from += 2) {
            for (int to = 1; to <= 15; to += 2) {
                EventCircuit x = new EventCircuit();
                x.set(11, from);
                x.wire(2, NOT, 11, 11);
                x.wire(3, NOT, 2, 2);
                x.register(0, FIRST, 11, packed(11, 11));
                x.register(1, FIRST, 2, packed(11, 2));
                x.register(4, PLUS, 1, packed(11, 3));
                x.set(11, to);
                due("the clock itself, " + from + " before " + to, x.value(0), from);
                due("a wire on the clock, " + from + " before " + to, x.value(1), 15 - from);
                due("a wire further off, " + from + " before " + to, x.value(4), from);
                due("the wire afterwards", x.value(2), 15 - to);
            }
        }
    }

    private static void registersTakeOverAtOnce() {
        EventCircuit x = new EventCircuit();
        x.set(0, 3);
        x.set(11, 12);
        x.register(0, FIRST, 11, packed(5, 11));
        x.register(11, FIRST, 0, packed(5, 0));
        due("two registers swap", x.set(5, 1), 3);
        due("value(0)", x.value(0), 12);
        due("value(11)", x.value(11), 3);
        for (int way = -1; way <= 1; way += 2) {
            ringTakesOver(way, FIRST);
            ringTakesOver(way, OR);
        }
    }

    /** Eleven registers in a ring around one clock; FIRST reads the neighbour as a, OR as b beside the clock's 0. */
    private static void ringTakesOver(int way, int op) {
        EventCircuit ring = new EventCircuit();
        for (int r = 0; r < 11; r++) {
            ring.set(r, r);
        }
        for (int r = 0; r < 11; r++) {
            int neighbour = (r + way + 11) % 11;
            ring.register(r, op, op == FIRST ? neighbour : 11, packed(11, op == FIRST ? 11 : neighbour));
        }
        due("ring of op " + op + ", changes", ring.set(11, 1), 12);
        for (int r = 0; r < 11; r++) {
            due("ring of op " + op + ", value(" + r + ")", ring.value(r), (r + way + 11) % 11);
        }
    }

    private static void onlyTheClocksOwnRegisters() {
        EventCircuit x = new EventCircuit();
        x.register(0, NOT, 0, packed(10, 0));
        x.register(1, NOT, 1, packed(11, 1));
        x.register(2, NOT, 2, packed(10, 2));
        due("an input that is no clock", x.set(9, 1), 1);
        due("clock 11", x.set(11, 1), 2);
        due("value(0)", x.value(0), 0);
        due("value(1)", x.value(1), 15);
        due("clock 10", x.set(10, 1), 3);
        due("value(0)", x.value(0), 15);
        due("value(1)", x.value(1), 15);
        due("value(2)", x.value(2), 15);
    }

    private static void wiresSeeNewRegisters() {
        EventCircuit x = new EventCircuit();
        x.register(5, NOT, 5, packed(11, 5));
        x.wire(4, FIRST, 5, 5);
        x.wire(6, PLUS, 5, 11);
        x.wire(3, FIRST, 4, 4);
        due("set(11, 3)", x.set(11, 3), 5);
        due("value(3)", x.value(3), 15);
        due("value(6)", x.value(6), 2);
    }

    private static void makingIsNoEdge() {
        EventCircuit x = new EventCircuit();
        x.register(0, NOT, 0, packed(11, 0));
        due("a wire with an odd value", x.wire(1, NOT, 2, 2), 15);
        due("free of it", x.free(1), 15);
        due("a register with it as clock", x.register(3, NOT, 3, packed(1, 3)), 0);
        due("the register's own signals made wires", x.wire(2, FIRST, 4, 4), 0);
        due("value(0)", x.value(0), 0);
        due("value(3)", x.value(3), 0);
        due("free of the clock", x.free(1), 15);
        due("value(3) after it", x.value(3), 0);
        // A register follows neither its formula nor a wire in it until its clock rises.
        x.register(5, FIRST, 6, packed(11, 6));
        due("a wire into a register", x.wire(6, NOT, 4, 4), 15);
        due("value(5)", x.value(5), 0);
        due("a new formula", x.register(5, NOT, 4, packed(11, 4)), 0);
        due("value(5) with it", x.value(5), 0);
        due("the edge", x.set(11, 1), 3);
        due("value(5) after it", x.value(5), 15);
    }

    private static void longestChainSettles() {
        for (int way = 0; way <= 1; way++) {
            EventCircuit x = chain(way == 0, 11);
            int head = way == 0 ? 1 : 10;
            int tail = way == 0 ? 11 : 0;
            int root = way == 0 ? 0 : 11;
            due("a new formula at the head", x.wire(head, NOT, root, root), 15);
            due("value at the tail", x.value(tail), 15);
            due("free of the head", x.free(head), 15);
            due("value at the tail stays", x.value(tail), 15);
            due("set of the head", x.set(head, 4), 11);
            due("the head made a register", x.register(head, NOT, head, packed(root, head)), 4);
            due("value at the tail stays still", x.value(tail), 4);
        }
    }

    /** Wires of FIRST in a chain, from signal 0 up or from signal 11 down. */
    private static EventCircuit chain(boolean up, int length) {
        EventCircuit x = new EventCircuit();
        for (int i = 1; i <= length; i++) {
            int w = up ? i : 11 - i;
            int below = up ? i - 1 : 12 - i;
            x.wire(w, FIRST, below, below);
        }
        return x;
    }

    // Promise 1

    private static void newObjectIsEmpty() {
        EventCircuit used = new EventCircuit();
        used.set(0, 15);
        used.wire(1, NOT, 2, 2);
        used.register(3, NOT, 3, packed(4, 3));
        EventCircuit x = new EventCircuit();
        for (int s = 0; s <= 11; s++) {
            due("kind(" + s + ")", x.kind(s), 0);
            due("value(" + s + ")", x.value(s), 0);
            due("hanging(" + s + ")", x.hanging(s), 0);
        }
        due("depth()", x.depth(), 0);
        for (int s = 0; s <= 11; s++) {
            due("no clock: set(" + s + ", 1)", x.set(s, 1), 1);
            due("no clock: pulse(" + s + ", 2, 16)", x.pulse(s, 2, 16), 0);
        }
        for (int s = 0; s < 11; s++) {
            due("no clock: wire(" + s + ", ..)", x.wire(s, FIRST, 11, 11), 1);
        }
    }

    // Promise 2

    private static void wireAroundEveryRange() {
        for (int s = -2; s <= 13; s++) {
            for (int op = -2; op <= 10; op++) {
                for (int a = -2; a <= 13; a++) {
                    for (int b = -2; b <= 13; b++) {
                        boolean good = inside(s, 11) && inside(op, 8) && inside(a, 11) && inside(b, 11);
                        int made = a == s || b == s ? CIRCLE : op == NOT ? 15 : 0;
                        EventCircuit x = new EventCircuit();
                        String call = "wire(" + s + ", " + op + ", " + a + ", " + b + ")";
                        due(call, x.wire(s, op, a, b), good ? made : BAD);
                        if (inside(s, 11)) {
                            due("kind after " + call, x.kind(s), good && made != CIRCLE ? 1 : 0);
                        }
                    }
                }
            }
        }
    }

    private static void wireOnAnyClock() {
        for (int clock = 0; clock <= 11; clock++) {
            for (int r = 0; r <= 11; r++) {
                if (r != clock) {
                    EventCircuit x = new EventCircuit();
                    x.register(r, NOT, r, packed(clock, r));
                    due("wire of clock " + clock + " of register " + r, x.wire(clock, NOT, r, r), NOT_INPUT);
                    due("kind of clock " + clock, x.kind(clock), 0);
                    due("value of clock " + clock, x.value(clock), 0);
                    x.set(clock, 1);
                    due("register " + r + " has its clock " + clock, x.value(r), 15);
                }
            }
        }
    }

    private static void wireOnAFormerClock() {
        EventCircuit freed = clocked();
        freed.free(0);
        due("the register made an input", freed.wire(11, NOT, 5, 5), 15);
        EventCircuit wired = clocked();
        wired.wire(0, FIRST, 5, 5);
        due("the register made a wire", wired.wire(11, NOT, 5, 5), 15);
        EventCircuit moved = clocked();
        moved.register(0, NOT, 0, packed(10, 0));
        due("the register moved to another clock", moved.wire(11, NOT, 5, 5), 15);
        due("its new clock", moved.wire(10, NOT, 5, 5), NOT_INPUT);
        EventCircuit two = clocked();
        two.register(1, NOT, 1, packed(11, 1));
        two.free(0);
        due("one of two registers gone", two.wire(11, NOT, 5, 5), NOT_INPUT);
        two.free(1);
        due("both registers gone", two.wire(11, NOT, 5, 5), 15);
    }

    private static EventCircuit clocked() {
        EventCircuit x = new EventCircuit();
        x.register(0, NOT, 0, packed(11, 0));
        return x;
    }

    private static void smallestCircle() {
        for (int s = 0; s <= 11; s++) {
            int other = (s + 1) % 12;
            for (int op = 0; op <= 8; op++) {
                EventCircuit x = new EventCircuit();
                due("by a, op " + op + ", s " + s, x.wire(s, op, s, other), CIRCLE);
                due("by b, op " + op + ", s " + s, x.wire(s, op, other, s), CIRCLE);
                due("by both, op " + op + ", s " + s, x.wire(s, op, s, s), CIRCLE);
                due("kind(" + s + ")", x.kind(s), 0);
            }
        }
    }

    private static void circlesOfEveryLength() {
        for (int way = 0; way <= 1; way++) {
            for (int length = 1; length <= 11; length++) {
                EventCircuit x = chain(way == 0, length);
                int root = way == 0 ? 0 : 11;
                int tail = way == 0 ? length : 11 - length;
                due("circle of " + (length + 1) + " by a", x.wire(root, NOT, tail, root), CIRCLE);
                due("circle of " + (length + 1) + " by a alone", x.wire(root, NOT, tail, tail), CIRCLE);
                due("kind of the root", x.kind(root), 0);
                due("value of the tail", x.value(tail), 0);
                due("depth()", x.depth(), length);
                if (length < 11) {
                    int free = way == 0 ? 11 : 0;
                    due("circle of " + (length + 1) + " by b alone", x.wire(root, NOT, free, tail), CIRCLE);
                    due("no circle", x.wire(root, NOT, free, free), 15);
                    due("value of the tail", x.value(tail), 15);
                }
            }
        }
    }

    private static void lastInputStaysOne() {
        for (int input = 0; input <= 11; input++) {
            EventCircuit x = new EventCircuit();
            for (int w = 0; w <= 11; w++) {
                if (w != input) {
                    x.wire(w, FIRST, input, input);
                }
            }
            for (int w = 0; w <= 11; w++) {
                due("eleven wires, the twelfth on " + w, x.wire(input, FIRST, w, w), CIRCLE);
            }
            due("kind(" + input + ")", x.kind(input), 0);
            due("set(" + input + ", 15)", x.set(input, 15), 12);
        }
    }

    private static void noCircle() {
        EventCircuit x = new EventCircuit();
        x.wire(1, FIRST, 0, 0);
        due("0 made a register of 1", x.register(0, FIRST, 1, packed(11, 1)), 0);
        due("1 on the register 0", x.wire(1, NOT, 0, 0), 15);
        due("the register made a wire on 1", x.wire(0, FIRST, 1, 1), CIRCLE);
        due("the register made a wire on another", x.wire(0, FIRST, 5, 5), 0);
        due("1 turned to another", x.wire(1, FIRST, 6, 6), 0);
        due("0 on 1, which was on 0", x.wire(0, FIRST, 1, 1), 0);
        due("1 on 0 now", x.wire(1, FIRST, 0, 0), CIRCLE);
        due("1 made an input", x.free(1), 0);
        due("2 on 0", x.wire(2, NOT, 0, 0), 15);
        due("1 on 2, which hangs on 1", x.wire(1, FIRST, 2, 2), CIRCLE);
        due("0 turned to another", x.wire(0, FIRST, 6, 6), 0);
        due("1 on 2 now", x.wire(1, FIRST, 2, 2), 15);
        due("the same formula again", x.wire(1, FIRST, 2, 2), 15);
        due("two ways to one signal", x.wire(3, PLUS, 1, 2), 14);
    }

    private static void wireAnswersSettledValue() {
        EventCircuit x = new EventCircuit();
        x.set(0, 15);
        due("an input made a wire", x.wire(0, FIRST, 1, 1), 0);
        due("a wire made another", x.wire(0, NOT, 1, 1), 15);
        x.register(2, FIRST, 0, packed(11, 0));
        x.set(11, 1);
        due("the register's value", x.value(2), 15);
        due("a register made a wire", x.wire(2, NOT, 0, 0), 0);
        due("the answer is 0, not a change", x.wire(2, NOT, 0, 0), 0);
    }

    // Promise 3

    private static void registerAroundEveryRange() {
        for (int s = -2; s <= 13; s++) {
            for (int op = -2; op <= 10; op++) {
                for (int a = -2; a <= 13; a++) {
                    for (int bc = -2; bc <= 145; bc += 7) {
                        boolean good = inside(s, 11) && inside(op, 8) && inside(a, 11) && inside(bc, 143);
                        int made = bc / 12 == s ? NOT_INPUT : 0;
                        EventCircuit x = new EventCircuit();
                        String call = "register(" + s + ", " + op + ", " + a + ", " + bc + ")";
                        due(call, x.register(s, op, a, bc), good ? made : BAD);
                        if (inside(s, 11)) {
                            due("kind after " + call, x.kind(s), good && made == 0 ? 2 : 0);
                        }
                    }
                }
            }
        }
    }

    private static void packedAroundItsRange() {
        for (int s = 0; s <= 11; s++) {
            for (int bc = -30; bc <= 300; bc++) {
                EventCircuit x = new EventCircuit();
                int want = !inside(bc, 143) ? BAD : bc / 12 == s ? NOT_INPUT : 0;
                due("register(" + s + ", AND, 0, " + bc + ")", x.register(s, AND, 0, bc), want);
                due("kind(" + s + ")", x.kind(s), want == 0 ? 2 : 0);
            }
        }
    }

    private static void packedIsClockAndSecond() {
        for (int clock = 0; clock <= 11; clock++) {
            for (int b = 0; b <= 11; b++) {
                EventCircuit x = new EventCircuit();
                int s = (clock + 5) % 12;
                for (int i = 0; i <= 11; i++) {
                    x.set(i, i == b ? 8 : i == s ? 2 : 0);
                }
                int kept = s == b ? 8 : 2;
                due("bc " + packed(clock, b), x.register(s, NOT, s, packed(clock, b)), kept);
                x.register(s, MINUS, (clock + 6) % 12, packed(clock, b));
                int first = x.value((clock + 6) % 12);
                for (int i = 0; i <= 11; i++) {
                    if (i != clock && i != s) {
                        x.pulse(i, 1, 1);
                        due("bc " + packed(clock, b) + " without clock, by " + i, x.value(s), kept);
                    }
                }
                x.set(clock, 9);
                due("bc " + packed(clock, b) + " with its clock", x.value(s), (first - 8) & 15);
            }
        }
    }

    private static void clockMustBeInput() {
        for (int clock = 0; clock <= 11; clock++) {
            int s = (clock + 1) % 12;
            int other = (clock + 2) % 12;
            EventCircuit x = new EventCircuit();
            x.wire(clock, NOT, other, other);
            due("clock " + clock + " is a wire", x.register(s, NOT, s, packed(clock, s)), NOT_INPUT);
            x.register(clock, NOT, clock, packed(other, clock));
            due("clock " + clock + " is a register", x.register(s, NOT, s, packed(clock, s)), NOT_INPUT);
            due("kind(" + s + ")", x.kind(s), 0);
            x.free(clock);
            due("clock " + clock + " is an input again", x.register(s, NOT, s, packed(clock, s)), 0);
            due("kind(" + s + ")", x.kind(s), 2);
        }
    }

    private static void clockMustBeAnother() {
        for (int s = 0; s <= 11; s++) {
            int other = (s + 1) % 12;
            EventCircuit x = new EventCircuit();
            due("an input " + s, x.register(s, NOT, other, packed(s, other)), NOT_INPUT);
            due("kind(" + s + ")", x.kind(s), 0);
            x.wire(s, NOT, other, other);
            due("a wire " + s, x.register(s, NOT, other, packed(s, other)), NOT_INPUT);
            due("kind(" + s + ")", x.kind(s), 1);
            x.register(s, NOT, s, packed(other, s));
            due("a register " + s, x.register(s, NOT, other, packed(s, other)), NOT_INPUT);
            due("kind(" + s + ")", x.kind(s), 2);
            due("s as a and b is none", x.register(s, NOT, s, packed(other, s)), 15);
        }
    }

    private static void registerOnAnyClock() {
        for (int clock = 0; clock <= 11; clock++) {
            for (int r = 0; r <= 11; r++) {
                if (r != clock) {
                    EventCircuit x = new EventCircuit();
                    x.register(r, NOT, r, packed(clock, r));
                    for (int c = 0; c <= 11; c++) {
                        due("register of clock " + clock + " with clock " + c, x.register(clock, NOT, c, packed(c, c)), NOT_INPUT);
                    }
                    due("kind(" + clock + ")", x.kind(clock), 0);
                    x.free(r);
                    due("register of a former clock", x.register(clock, NOT, clock, packed(r, clock)), 0);
                }
            }
        }
        EventCircuit shared = new EventCircuit();
        for (int r = 0; r < 11; r++) {
            due("one clock for register " + r, shared.register(r, NOT, r, packed(11, r)), 0);
        }
        due("pulse of the one clock", shared.pulse(11, 1, 1), 11);
    }

    private static void registerKeepsEveryValue() {
        for (int value = 0; value <= 15; value++) {
            EventCircuit x = new EventCircuit();
            x.set(0, value);
            due("from an input", x.register(0, NOT, 1, packed(11, 1)), value);
            due("value(0)", x.value(0), value);
            due("from a register", x.register(0, FIRST, 1, packed(10, 1)), value);
            due("value(0)", x.value(0), value);
            x.wire(2, PLUS, 0, 1);
            x.wire(3, FIRST, 2, 2);
            due("from a wire", x.register(2, NOT, 2, packed(11, 2)), value);
            due("value(2)", x.value(2), value);
            due("value(3)", x.value(3), value);
        }
    }

    private static void oddClockIsNoEdge() {
        EventCircuit x = new EventCircuit();
        x.set(11, 15);
        due("register under 15", x.register(0, NOT, 0, packed(11, 0)), 0);
        due("15 to 1", x.set(11, 1), 1);
        due("1 to 1", x.set(11, 1), 0);
        due("1 to 14", x.set(11, 14), 1);
        due("value(0)", x.value(0), 0);
        due("14 to 15", x.set(11, 15), 2);
        due("value(0)", x.value(0), 15);
    }

    private static void registersMayCircle() {
        EventCircuit x = new EventCircuit();
        x.wire(1, NOT, 0, 0);
        due("a register in a circle with a wire", x.register(0, FIRST, 1, packed(11, 1)), 0);
        due("a register of itself", x.register(2, NOT, 2, packed(11, 2)), 0);
        due("a register of another", x.register(3, FIRST, 4, packed(11, 4)), 0);
        due("and the other of it", x.register(4, NOT, 3, packed(11, 3)), 0);
        due("the edge", x.set(11, 1), 5);
        due("value(0)", x.value(0), 15);
        due("value(1)", x.value(1), 0);
        due("value(4)", x.value(4), 15);
    }

    // Promise 4

    private static void freeKeepsEveryValue() {
        for (int value = 0; value <= 15; value++) {
            EventCircuit x = new EventCircuit();
            x.set(0, value);
            x.wire(1, FIRST, 0, 0);
            x.wire(2, NOT, 1, 1);
            due("a wire", x.free(1), value);
            due("value(1)", x.value(1), value);
            due("kind(1)", x.kind(1), 0);
            due("it follows no more", x.set(0, 15 - value), 1);
            due("value(1)", x.value(1), value);
            due("value(2)", x.value(2), 15 - value);
            x.register(1, NOT, 1, packed(11, 1));
            due("a register", x.free(1), value);
            due("kind(1)", x.kind(1), 0);
            due("it takes over no more", x.set(11, 1), 1);
            due("value(1)", x.value(1), value);
        }
    }

    private static void freeOfAnInput() {
        EventCircuit x = clocked();
        x.set(5, 15);
        due("an input", x.free(5), 15);
        due("kind(5)", x.kind(5), 0);
        x.set(11, 2);
        due("a clock", x.free(11), 2);
        due("kind(11)", x.kind(11), 0);
        due("it is still a clock", x.set(11, 3), 2);
        due("and may not be made a wire", x.wire(11, NOT, 5, 5), NOT_INPUT);
        due("an odd clock", x.free(11), 3);
        due("value(0)", x.value(0), 15);
    }

    private static void freeEndsTheClock() {
        EventCircuit x = clocked();
        due("free(0)", x.free(0), 0);
        due("pulse(11, 1, 16)", x.pulse(11, 1, 16), 0);
        due("the freed register as clock", x.register(11, NOT, 11, packed(0, 11)), 0);
        due("set(0, 1)", x.set(0, 1), 2);
        EventCircuit wired = clocked();
        wired.wire(0, FIRST, 5, 5);
        due("a register made a wire has no clock", wired.set(11, 1), 1);
        due("free of it", wired.free(0), 0);
        due("and none comes back", wired.pulse(11, 2, 4), 0);
    }

    // Promise 5

    private static void setAroundItsValues() {
        for (int s = 0; s <= 11; s++) {
            EventCircuit x = new EventCircuit();
            x.set(s, 7);
            for (int value = -20; value <= 40; value++) {
                boolean good = inside(value, 15);
                int had = x.value(s);
                due("set(" + s + ", " + value + ")", x.set(s, value), !good ? BAD : value == had ? 0 : 1);
                due("value(" + s + ")", x.value(s), good ? value : had);
            }
        }
    }

    private static void setOnlyInputs() {
        refusedOnWiresAndRegisters((x, s) -> x.set(s, 0));
        refusedOnWiresAndRegisters((x, s) -> x.set(s, 15));
        refusedOnWiresAndRegisters((x, s) -> x.set(s, x.value(s)));
    }

    private static void refusedOnWiresAndRegisters(CallWith call) {
        for (int s = 0; s <= 11; s++) {
            int other = (s + 1) % 12;
            EventCircuit x = new EventCircuit();
            x.wire(s, NOT, other, other);
            due("a wire " + s, call.answer(x, s), NOT_INPUT);
            due("value(" + s + ")", x.value(s), 15);
            x.register(s, FIRST, other, packed((s + 2) % 12, other));
            due("a register " + s, call.answer(x, s), NOT_INPUT);
            due("value(" + s + ")", x.value(s), 15);
            due("kind(" + s + ")", x.kind(s), 2);
            x.free(s);
            due("an input " + s, call.answer(x, s) >= 0 ? 1 : 0, 1);
        }
    }

    private static void setToTheSame() {
        EventCircuit x = clocked();
        x.wire(1, NOT, 11, 11);
        due("0 to 0", x.set(11, 0), 0);
        due("0 to 15", x.set(11, 15), 3);
        due("15 to 15", x.set(11, 15), 0);
        due("value(0)", x.value(0), 15);
        due("value(1)", x.value(1), 0);
    }

    private static void setChangesOneAlone() {
        EventCircuit x = new EventCircuit();
        x.wire(1, AND, 0, 2);
        x.wire(3, LESS, 0, 2);
        x.wire(4, FIRST, 2, 0);
        x.register(5, FIRST, 2, packed(0, 2));
        due("wires and a register that come out the same", x.set(0, 1), 1);
        due("two wires that take turns", x.set(2, 1), 3);
        due("value(1)", x.value(1), 1);
    }

    private static void setChangesAll() {
        for (int way = 0; way <= 1; way++) {
            EventCircuit x = chain(way == 0, 11);
            for (int value = 1; value <= 15; value++) {
                due("eleven wires, set to " + value, x.set(way == 0 ? 0 : 11, value), 12);
            }
        }
        EventCircuit registers = new EventCircuit();
        for (int r = 1; r <= 11; r++) {
            registers.register(r, NOT, r, packed(0, r));
        }
        due("eleven registers, rising", registers.set(0, 1), 12);
        due("eleven registers, falling", registers.set(0, 0), 1);
    }

    // Promise 6

    private static void pulseClamps() {
        int[] numbers = {Integer.MIN_VALUE, Integer.MIN_VALUE + 1, -65535, -256, -17, -16, -2, -1, 0, 1, 2, 8, 14, 15, 16,
            17, 18, 31, 32, 33, 255, 256, 257, 65536, 65537, Integer.MAX_VALUE - 1, Integer.MAX_VALUE};
        for (int n : numbers) {
            int times = n < 0 ? 0 : n > 16 ? 16 : n;
            EventCircuit x = new EventCircuit();
            x.set(1, 7);
            x.register(0, PLUS, 0, packed(11, 1));
            due("pulse(11, 1, " + n + ")", x.pulse(11, 1, n), times);
            due("value(0)", x.value(0), 7 * times % 16);
            due("value(11)", x.value(11), 0);
            // Sixteen steps by 1 come back to where they began: a seventeenth would show.
            EventCircuit y = new EventCircuit();
            y.set(11, 3);
            y.set(1, 1);
            y.register(0, PLUS, 0, packed(11, 1));
            due("from 3: pulse(11, 2, " + n + ")", y.pulse(11, 2, n), times);
            due("from 3: value(0)", y.value(0), times % 16);
            due("from 3: value(11)", y.value(11), 3);
        }
    }

    private static void pulseCountsAll() {
        for (int registers = 0; registers <= 11; registers++) {
            EventCircuit x = new EventCircuit();
            for (int r = 0; r < registers; r++) {
                x.register(r, NOT, r, packed(11, r));
            }
            due(registers + " registers, 16 times", x.pulse(11, 15, 16), 16 * registers);
            due(registers + " registers, 17 times", x.pulse(11, 15, 17), 16 * registers);
            due(registers + " registers, once", x.pulse(11, 1, 1), registers);
            due(registers + " registers, not at all", x.pulse(11, 1, 0), 0);
        }
    }

    private static void pulseCountsNothingElse() {
        EventCircuit x = new EventCircuit();
        x.wire(1, NOT, 11, 11);
        due("wires alone", x.pulse(11, 1, 16), 0);
        x.register(0, FIRST, 2, packed(11, 2));
        due("a register that takes what it has", x.pulse(11, 1, 16), 0);
        x.set(2, 9);
        due("a register that changes the first time only", x.pulse(11, 1, 16), 1);
        x.register(3, NOT, 3, packed(10, 3));
        due("a register of another clock", x.pulse(11, 1, 16), 0);
        due("an input that is no clock", x.pulse(2, 1, 16), 0);
        x.wire(4, NOT, 0, 0);
        x.set(2, 8);
        due("a register with a wire on it", x.pulse(11, 1, 2), 1);
        due("value(4)", x.value(4), 7);
    }

    private static void everyPulse() {
        for (int former = 0; former <= 15; former++) {
            for (int value = 0; value <= 15; value++) {
                EventCircuit x = new EventCircuit();
                x.set(11, former);
                x.set(1, 15);
                x.register(0, MINUS, 0, packed(11, 1));
                x.register(2, FIRST, 11, packed(11, 11));
                boolean rises = former % 2 != value % 2;
                int even = former % 2 == 0 ? former : value;
                int seen = rises && even != 0 ? 1 : 0;
                String call = "from " + former + " pulse(11, " + value + ", 3)";
                due(call, x.pulse(11, value, 3), (rises ? 3 : 0) + seen);
                due(call + ": value(0)", x.value(0), rises ? 3 : 0);
                due(call + ": value(2)", x.value(2), rises ? even : 0);
                due(call + ": value(11)", x.value(11), former);
                due(call + ": kind(11)", x.kind(11), 0);
            }
        }
    }

    private static void pulseAroundItsValues() {
        for (int s = 0; s <= 11; s++) {
            int r = (s + 1) % 12;
            EventCircuit x = new EventCircuit();
            x.register(r, NOT, r, packed(s, r));
            for (int value = -20; value <= 40; value++) {
                boolean good = inside(value, 15);
                int had = x.value(r);
                boolean rises = good && value % 2 == 1;
                due("pulse(" + s + ", " + value + ", 1)", x.pulse(s, value, 1), !good ? BAD : rises ? 1 : 0);
                due("value(" + r + ")", x.value(r), rises ? 15 - had : had);
                due("value(" + s + ")", x.value(s), 0);
            }
        }
    }

    private static void pulseOnlyInputs() {
        refusedOnWiresAndRegisters((x, s) -> x.pulse(s, 0, 1));
        refusedOnWiresAndRegisters((x, s) -> x.pulse(s, 15, 16));
        refusedOnWiresAndRegisters((x, s) -> x.pulse(s, x.value(s), 17));
    }

    private static void noPulseIsRefusedToo() {
        for (int n : new int[] {0, -1, Integer.MIN_VALUE}) {
            refusedOnWiresAndRegisters((x, s) -> x.pulse(s, 1, n));
            farIsBad(11, (x, far) -> x.pulse(far, 1, n));
            farIsBad(15, (x, far) -> x.pulse(3, far, n));
        }
    }

    // Promises 7 and 8

    private static void valueOfEverySignal() {
        for (int s = 0; s <= 11; s++) {
            int other = (s + 1) % 12;
            for (int value = 0; value <= 15; value++) {
                EventCircuit x = new EventCircuit();
                x.set(s, value);
                due("an input " + s, x.value(s), value);
                due("its neighbour", x.value(other), 0);
                x.wire(other, NOT, s, s);
                due("a wire " + other, x.value(other), 15 - value);
                x.register(s, FIRST, other, packed((s + 2) % 12, other));
                due("a register " + s, x.value(s), value);
                x.set((s + 2) % 12, 1);
                due("a register " + s + " after the edge", x.value(s), 15 - value);
            }
        }
    }

    private static void kindOfEverySignal() {
        for (int s = 0; s <= 11; s++) {
            int other = (s + 1) % 12;
            EventCircuit x = new EventCircuit();
            due("new", x.kind(s), 0);
            x.wire(s, NOT, other, other);
            due("input to wire", x.kind(s), 1);
            x.register(s, NOT, s, packed(other, s));
            due("wire to register", x.kind(s), 2);
            x.wire(s, NOT, other, other);
            due("register to wire", x.kind(s), 1);
            x.free(s);
            due("wire to input", x.kind(s), 0);
            x.register(s, NOT, s, packed(other, s));
            due("input to register", x.kind(s), 2);
            x.free(s);
            due("register to input", x.kind(s), 0);
            for (int i = 0; i <= 11; i++) {
                due("all the others", x.kind(i), 0);
            }
        }
    }

    // Promise 9

    private static void hangingBits() {
        for (int w = 0; w <= 11; w++) {
            for (int s = 0; s <= 11; s++) {
                if (w != s) {
                    EventCircuit x = new EventCircuit();
                    x.wire(w, AND, s, s);
                    for (int i = 0; i <= 11; i++) {
                        due("wire " + w + " on " + s + ": hanging(" + i + ")", x.hanging(i), i == s ? 1 << w : 0);
                    }
                }
            }
        }
    }

    private static void nothingHangs() {
        EventCircuit x = new EventCircuit();
        for (int r = 0; r < 11; r++) {
            x.register(r, PLUS, (r + 1) % 11, packed(11, r));
        }
        for (int s = 0; s <= 11; s++) {
            due("registers alone: hanging(" + s + ")", x.hanging(s), 0);
        }
        for (int r = 0; r < 11; r++) {
            x.wire(r, AND, 11, 11);
            x.free(r);
        }
        due("wires that are inputs again: hanging(11)", x.hanging(11), 0);
    }

    private static void allHang() {
        EventCircuit up = chain(true, 11);
        EventCircuit down = chain(false, 11);
        for (int s = 0; s <= 11; s++) {
            due("chain up: hanging(" + s + ")", up.hanging(s), 4095 & -(2 << s));
            due("chain down: hanging(" + s + ")", down.hanging(s), (1 << s) - 1);
        }
        for (int s = 0; s <= 11; s++) {
            EventCircuit star = new EventCircuit();
            for (int w = 0; w <= 11; w++) {
                if (w != s) {
                    star.wire(w, AND, s, s);
                }
            }
            due("star: hanging(" + s + ")", star.hanging(s), 4095 ^ (1 << s));
        }
    }

    private static void wiresHangOnBoth() {
        for (int op = 0; op <= 8; op++) {
            EventCircuit x = new EventCircuit();
            x.wire(5, op, 0, 11);
            x.wire(6, op, 1, 5);
            x.wire(4, op, 5, 1);
            due("op " + op + ": hanging(0)", x.hanging(0), 1 << 4 | 1 << 5 | 1 << 6);
            due("op " + op + ": hanging(11)", x.hanging(11), 1 << 4 | 1 << 5 | 1 << 6);
            due("op " + op + ": hanging(1)", x.hanging(1), 1 << 4 | 1 << 6);
            due("op " + op + ": hanging(5)", x.hanging(5), 1 << 4 | 1 << 6);
            due("op " + op + ": hanging(4)", x.hanging(4), 0);
        }
    }

    private static void hangingEndsAtRegisters() {
        EventCircuit x = chain(true, 10);
        x.register(5, FIRST, 4, packed(11, 4));
        due("hanging(0) up to the register", x.hanging(0), 1 << 1 | 1 << 2 | 1 << 3 | 1 << 4);
        due("hanging(4): a register does not hang", x.hanging(4), 0);
        due("hanging(5): on the register", x.hanging(5), 0x7c0);
        due("hanging(11): on the clock", x.hanging(11), 0);
        x.free(5);
        due("hanging(0) up to an input", x.hanging(0), 1 << 1 | 1 << 2 | 1 << 3 | 1 << 4);
        due("hanging(5): on the input", x.hanging(5), 0x7c0);
        x.wire(5, FIRST, 11, 4);
        due("hanging(0) through the wire", x.hanging(0), 0x7fe);
        due("hanging(11) through the wire", x.hanging(11), 0x7e0);
    }

    // Promise 10

    private static void depthWithoutWires() {
        EventCircuit x = new EventCircuit();
        due("inputs alone", x.depth(), 0);
        for (int r = 0; r < 11; r++) {
            x.register(r, PLUS, (r + 1) % 11, packed(11, r));
        }
        due("registers alone", x.depth(), 0);
        EventCircuit freed = chain(true, 11);
        for (int w = 1; w <= 11; w++) {
            freed.free(w);
        }
        due("wires that are inputs again", freed.depth(), 0);
    }

    private static void depthOfWiresApart() {
        EventCircuit x = new EventCircuit();
        for (int w = 0; w < 11; w++) {
            x.wire(w, AND, 11, 11);
            due((w + 1) + " wires apart", x.depth(), 1);
        }
    }

    private static void depthOfEveryChain() {
        for (int length = 1; length <= 11; length++) {
            due("chain up of " + length, chain(true, length).depth(), length);
            due("chain down of " + length, chain(false, length).depth(), length);
            EventCircuit cut = chain(true, 11);
            cut.free(length);
            due("chain without wire " + length, cut.depth(), Math.max(length - 1, 11 - length));
        }
    }

    private static void depthByAOrB() {
        for (int op = 0; op <= 8; op++) {
            EventCircuit x = new EventCircuit();
            x.wire(3, op, 0, 1);
            x.wire(2, op, 3, 0);
            due("op " + op + ", by a", x.depth(), 2);
            x.wire(4, op, 1, 2);
            due("op " + op + ", by b", x.depth(), 3);
            x.register(2, op, 3, packed(11, 3));
            due("op " + op + ", a register between", x.depth(), 1);
        }
    }

    private static void depthOfTheLongest() {
        EventCircuit x = new EventCircuit();
        // A ladder: each wire has the two before it, so short ways go beside the long one.
        x.wire(9, AND, 11, 11);
        x.wire(8, AND, 9, 11);
        for (int w = 7; w >= 0; w--) {
            x.wire(w, AND, w + 2, w + 1);
        }
        due("ladder", x.depth(), 10);
        x.wire(10, AND, 9, 0);
        due("ladder with a wire on its ends", x.depth(), 11);
        x.wire(10, AND, 9, 11);
        due("ladder with a short branch", x.depth(), 10);
        x.wire(0, AND, 11, 11);
        due("ladder without its last wire", x.depth(), 9);
    }

    // What it is

    private static void lastCallsCount() {
        EventCircuit x = new EventCircuit();
        x.set(1, 1);
        x.register(0, PLUS, 0, packed(11, 1));
        x.wire(2, NOT, 0, 0);
        int calls = 3;
        int edges = 0;
        while (calls < 509) {
            edges++;
            due("edge " + edges, x.set(11, 1), 3);
            x.set(11, 0);
            calls += 2;
        }
        due("call 510, of " + calls + " before", x.value(0), edges % 16);
        due("call 511", x.pulse(11, 1, 16), 16);
        due("call 512", x.value(2), 15 - edges % 16);
    }
}
