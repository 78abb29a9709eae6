import java.util.ArrayList;
import java.util.List;
import java.util.Set;
import java.util.TreeSet;

/** Runs of 512 calls, the same ones each time, compared with a model written from the document's words. */
public final class ModelTest {
    private static final int RUNS = 2000;
    private static final int CALLS = 512;

    private static long state = 20261115L;

    public static void main(String[] args) {
        for (int run = 0; run < RUNS; run++) {
            if (!runAgrees(run)) {
                System.exit(1);
            }
        }
        System.out.println("all answers are as the model's");
    }

    private static boolean runAgrees(int run) {
        EventCircuit circuit = new EventCircuit();
        Model model = new Model();
        List<String> calls = new ArrayList<>();
        // Some runs leave wires and registers standing for long, others free them often.
        int freeing = run % 4 * 3;
        for (int i = 0; i < CALLS; i++) {
            int[] answers = call(circuit, model, freeing, calls);
            if (answers[0] != answers[1]) {
                System.out.println("run " + run + ": " + calls);
                System.out.println("the last call answered " + answers[0] + ", due is " + answers[1]);
                return false;
            }
        }
        return true;
    }

    private static int[] call(EventCircuit x, Model m, int freeing, List<String> calls) {
        int s = mostly(12);
        int pick = below(60 + freeing);
        if (pick < 12) {
            int op = mostly(9);
            int a = mostly(12);
            int b = mostly(12);
            calls.add("wire(" + s + ", " + op + ", " + a + ", " + b + ")");
            return new int[] {x.wire(s, op, a, b), m.wire(s, op, a, b)};
        }
        if (pick < 20) {
            int op = mostly(9);
            int a = mostly(12);
            // Few signals serve as clocks, so that registers share them.
            int bc = below(4) == 0 ? mostly(144) : 12 * (9 + below(3)) + below(12);
            calls.add("register(" + s + ", " + op + ", " + a + ", " + bc + ")");
            return new int[] {x.register(s, op, a, bc), m.register(s, op, a, bc)};
        }
        if (pick < 32) {
            int value = mostly(16);
            calls.add("set(" + s + ", " + value + ")");
            return new int[] {x.set(s, value), m.set(s, value)};
        }
        if (pick < 38) {
            int value = mostly(16);
            int n = below(22) - 3;
            calls.add("pulse(" + s + ", " + value + ", " + n + ")");
            return new int[] {x.pulse(s, value, n), m.pulse(s, value, n)};
        }
        return look(x, m, s, pick, calls);
    }

    private static int[] look(EventCircuit x, Model m, int s, int pick, List<String> calls) {
        if (pick < 46) {
            calls.add("value(" + s + ")");
            return new int[] {x.value(s), m.value(s)};
        }
        if (pick < 49) {
            calls.add("kind(" + s + ")");
            return new int[] {x.kind(s), m.kind(s)};
        }
        if (pick < 54) {
            calls.add("hanging(" + s + ")");
            return new int[] {x.hanging(s), m.hanging(s)};
        }
        if (pick < 58) {
            calls.add("depth()");
            return new int[] {x.depth(), m.depth()};
        }
        calls.add("free(" + s + ")");
        return new int[] {x.free(s), m.free(s)};
    }

    private static int below(int bound) {
        state = state * 6364136223846793005L + 1442695040888963407L;
        return (int) ((state >>> 33) % bound);
    }

    /** A number from 0 to bound - 1, and now and then one just outside. */
    private static int mostly(int bound) {
        int pick = below(64);
        return pick == 0 ? -1 : pick == 1 ? bound : below(bound);
    }

    /** Works out each value and each set anew by recursion, where the program goes in rounds. */
    private static final class Model {
        private record Formula(int op, int a, int b, int clock) { }

        private static final int NO_CLOCK = -1;

        private final Formula[] formulas = new Formula[12];
        private final int[] held = new int[12];

        private boolean input(int s) {
            return formulas[s] == null;
        }

        private boolean wired(int s) {
            return !input(s) && formulas[s].clock() == NO_CLOCK;
        }

        private boolean registered(int s) {
            return !input(s) && formulas[s].clock() != NO_CLOCK;
        }

        private boolean signal(int s) {
            return 0 <= s && s <= 11;
        }

        private boolean clock(int s) {
            for (int r = 0; r < 12; r++) {
                if (registered(r) && formulas[r].clock() == s) {
                    return true;
                }
            }
            return false;
        }

        private int now(int s) {
            return wired(s) ? formulaNow(s) : held[s];
        }

        private int formulaNow(int s) {
            Formula f = formulas[s];
            int p = now(f.a());
            int q = now(f.b());
            return switch (f.op()) {
                case 0 -> p & q;
                case 1 -> p | q;
                case 2 -> p ^ q;
                case 3 -> (p + q) % 16;
                case 4 -> (p + 16 - q) % 16;
                case 5 -> p < q ? 1 : 0;
                case 6 -> p;
                case 7 -> 15 - p;
                default -> p == 0 ? q : 15 - q;
            };
        }

        /** What a wire with the signals a and b would hang on. */
        private Set<Integer> below(int a, int b) {
            Set<Integer> all = new TreeSet<>(List.of(a));
            all.add(b);
            for (int s : new int[] {a, b}) {
                if (wired(s)) {
                    all.addAll(below(formulas[s].a(), formulas[s].b()));
                }
            }
            return all;
        }

        private int chainTo(int s) {
            return wired(s) ? 1 + Math.max(chainTo(formulas[s].a()), chainTo(formulas[s].b())) : 0;
        }

        private int[] allNow() {
            int[] all = new int[12];
            for (int s = 0; s < 12; s++) {
                all[s] = now(s);
            }
            return all;
        }

        int wire(int s, int op, int a, int b) {
            if (!signal(s) || op < 0 || op > 8 || !signal(a) || !signal(b)) {
                return -1;
            }
            if (clock(s)) {
                return -3;
            }
            if (below(a, b).contains(s)) {
                return -2;
            }
            formulas[s] = new Formula(op, a, b, NO_CLOCK);
            return now(s);
        }

        int register(int s, int op, int a, int bc) {
            if (!signal(s) || op < 0 || op > 8 || !signal(a) || bc < 0 || bc > 143) {
                return -1;
            }
            if (!input(bc / 12) || bc / 12 == s || clock(s)) {
                return -3;
            }
            held[s] = now(s);
            formulas[s] = new Formula(op, a, bc % 12, bc / 12);
            return held[s];
        }

        int free(int s) {
            if (!signal(s)) {
                return -1;
            }
            held[s] = now(s);
            formulas[s] = null;
            return held[s];
        }

        private void change(int s, int value) {
            int[] next = held.clone();
            for (int r = 0; r < 12; r++) {
                if (registered(r) && formulas[r].clock() == s && held[s] % 2 == 0 && value % 2 == 1) {
                    next[r] = formulaNow(r);
                }
            }
            next[s] = value;
            System.arraycopy(next, 0, held, 0, 12);
        }

        private int differing(int[] former, boolean registersAlone) {
            int number = 0;
            for (int s = 0; s < 12; s++) {
                if (former[s] != now(s) && (registered(s) || !registersAlone)) {
                    number++;
                }
            }
            return number;
        }

        int set(int s, int value) {
            if (!signal(s) || value < 0 || value > 15) {
                return -1;
            }
            if (!input(s)) {
                return -3;
            }
            int[] former = allNow();
            change(s, value);
            return differing(former, false);
        }

        int pulse(int s, int value, int n) {
            if (!signal(s) || value < 0 || value > 15) {
                return -1;
            }
            if (!input(s)) {
                return -3;
            }
            int back = held[s];
            int number = 0;
            for (int i = 0; i < 2 * Math.max(0, Math.min(16, n)); i++) {
                int[] former = allNow();
                change(s, i % 2 == 0 ? value : back);
                number += differing(former, true);
            }
            return number;
        }

        int value(int s) {
            return signal(s) ? now(s) : -1;
        }

        int kind(int s) {
            return !signal(s) ? -1 : input(s) ? 0 : wired(s) ? 1 : 2;
        }

        int hanging(int s) {
            if (!signal(s)) {
                return -1;
            }
            int set = 0;
            for (int w = 0; w < 12; w++) {
                if (wired(w) && below(formulas[w].a(), formulas[w].b()).contains(s)) {
                    set |= 1 << w;
                }
            }
            return set;
        }

        int depth() {
            int longest = 0;
            for (int w = 0; w < 12; w++) {
                longest = Math.max(longest, chainTo(w));
            }
            return longest;
        }
    }
}
