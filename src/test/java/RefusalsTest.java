import java.util.ArrayList;
import java.util.List;
import java.util.function.IntBinaryOperator;
import java.util.function.Supplier;
import java.util.function.ToIntFunction;

/**
 * What the document says of refused calls. That such a call changes nothing is seen by a twin: an
 * object made by the same calls but for the refused one must answer everything in the same way.
 */
public final class RefusalsTest {
    private static final int BAD_ARG = Made.BAD_ARG;
    private static final int NONE = Made.NONE;
    private static final int[] RIGHT_TABLES = {0, 1, 2, 3, 4};
    private static final int[] EXTREMES = {Integer.MIN_VALUE, Integer.MIN_VALUE + 1, -64, -33, -32, -31, -7, -5, -1, 0,
            1, 2, 3, 4, 5, 6, 7, 15, 16, 30, 31, 32, 33, 63, 64, 1 << 16, 1 << 30, Integer.MAX_VALUE - 1,
            Integer.MAX_VALUE};

    private static final Due due = new Due();

    private record Call(String name, ToIntFunction<JoinOrderer> answer) { }

    private record SetCall(String name, Asked asked) {
        Call of(int set) {
            return new Call(name + " of " + set, x -> asked.answer(x, set));
        }
    }

    private interface Asked {
        int answer(JoinOrderer x, int set);
    }

    private static final List<SetCall> INT_CALLS_WITH_A_SET = List.of(
            new SetCall("size", JoinOrderer::size),
            new SetCall("cost", JoinOrderer::cost),
            new SetCall("linearCost", JoinOrderer::linearCost),
            new SetCall("linkedCost", JoinOrderer::linkedCost),
            new SetCall("worst", JoinOrderer::worst),
            new SetCall("left", JoinOrderer::left),
            new SetCall("linearTable, k = 0", (x, set) -> x.linearTable(set, 0)),
            new SetCall("linearTable, k = 4", (x, set) -> x.linearTable(set, 4)),
            new SetCall("linearTable, k = 5", (x, set) -> x.linearTable(set, 5)),
            new SetCall("linearTable, k = -1", (x, set) -> x.linearTable(set, -1)),
            new SetCall("linearTable, k least", (x, set) -> x.linearTable(set, Integer.MIN_VALUE)),
            new SetCall("linearTable, k greatest", (x, set) -> x.linearTable(set, Integer.MAX_VALUE)),
            new SetCall("plans", JoinOrderer::plans),
            new SetCall("linkedPlans", JoinOrderer::linkedPlans),
            new SetCall("cheapest", JoinOrderer::cheapest));

    private static final List<Supplier<JoinOrderer>> STATES = List.of(
            JoinOrderer::new,
            () -> Made.chain(0),
            () -> Made.allLinked(6, 6),
            () -> Made.allLinked(0, 0),
            RefusalsTest::someOfEach);

    public static void main(String[] args) {
        // First, since a call that throws would end any of the others.
        neverThrows();
        setsBeforeAnythingElse();
        table();
        filter();
        unfilter();
        unfilterNone();
        gain();
        connected();
        noSuchPlan();
        askingLeavesNoTrace();
        due.end();
    }

    private static JoinOrderer someOfEach() {
        JoinOrderer x = Made.tables(6, 0, 4, 1, 5);
        x.filter(0, 1, 0);
        x.filter(4, 0, 3);
        x.filter(2, 3, 6);
        x.filter(1, 3, 2);
        x.unfilter(3, 1);
        return x;
    }

    /** Every answer about every set, and then the state itself, which this takes apart. */
    private static List<Integer> everything(JoinOrderer x) {
        List<Integer> answers = new ArrayList<>();
        for (int set = 1; set <= 31; set++) {
            answers.add(x.connected(set) ? 1 : 0);
            for (SetCall call : INT_CALLS_WITH_A_SET) {
                if (!call.name.startsWith("linearTable")) {
                    answers.add(call.asked.answer(x, set));
                }
            }
        }
        for (int k = 0; k < 5; k++) {
            answers.add(x.linearTable(31, k));
        }
        for (int i = 0; i < 5; i++) {
            for (int j = 0; j < i; j++) {
                answers.add(x.gain(i, j));
                answers.add(x.unfilter(i, j));
            }
            answers.add(x.table(i, 0));
        }
        return answers;
    }

    private static void refused(List<Call> calls, int code) {
        for (int state = 0; state < STATES.size(); state++) {
            List<Integer> untouched = everything(STATES.get(state).get());
            for (Call call : calls) {
                JoinOrderer x = STATES.get(state).get();
                String what = call.name + " in state " + state;
                due.same(what, call.answer.applyAsInt(x), code);
                due.same("nothing changed after " + what, everything(x).equals(untouched), true);
            }
        }
    }

    private static void setsBeforeAnythingElse() {
        for (SetCall call : INT_CALLS_WITH_A_SET) {
            due.by("In all calls with a set, a number not 1 to 31 answers BAD_ARG before anything else: " + call.name);
            List<Call> calls = new ArrayList<>();
            for (int set : Made.WRONG_SETS) {
                calls.add(call.of(set));
            }
            refused(calls, BAD_ARG);
            JoinOrderer x = new JoinOrderer();
            due.same(call.name + " of 1 is not refused", call.asked.answer(x, 1) == BAD_ARG, false);
            due.same(call.name + " of 31 is not refused", call.asked.answer(x, 31) == BAD_ARG, false);
        }
    }

    private static void table() {
        due.by("Promise 2: BAD_ARG if i is not 0 to 4");
        List<Call> calls = new ArrayList<>();
        for (int i : Made.WRONG_TABLES) {
            calls.add(new Call("table(" + i + ", 0)", x -> x.table(i, 0)));
            calls.add(new Call("table(" + i + ", 6)", x -> x.table(i, 6)));
            calls.add(new Call("table(" + i + ", 7)", x -> x.table(i, 7)));
        }
        refused(calls, BAD_ARG);
        due.by("Promise 2: or x not 0 to 6");
        calls.clear();
        for (int x : Made.WRONG_EXPONENTS) {
            for (int i : RIGHT_TABLES) {
                calls.add(new Call("table(" + i + ", " + x + ")", o -> o.table(i, x)));
            }
        }
        refused(calls, BAD_ARG);
    }

    private static Call onPair(String name, ToIntFunction<JoinOrderer> answer, int i, int j) {
        return new Call(name + " of " + i + " and " + j, answer);
    }

    private static void filter() {
        due.by("Promise 3: BAD_ARG if i or j is not 0 to 4, they are the same");
        List<Call> calls = new ArrayList<>();
        for (int[] p : wrongPairs()) {
            calls.add(onPair("filter", x -> x.filter(p[0], p[1], 0), p[0], p[1]));
            calls.add(onPair("filter", x -> x.filter(p[0], p[1], 6), p[0], p[1]));
            calls.add(onPair("filter, x wrong too,", x -> x.filter(p[0], p[1], 7), p[0], p[1]));
        }
        refused(calls, BAD_ARG);
        due.by("Promise 3: or x is not 0 to 6");
        calls.clear();
        for (int strength : Made.WRONG_EXPONENTS) {
            for (int[] p : rightPairs()) {
                calls.add(onPair("filter of " + strength, x -> x.filter(p[0], p[1], strength), p[0], p[1]));
            }
        }
        refused(calls, BAD_ARG);
    }

    private static void unfilter() {
        due.by("Promise 4: BAD_ARG as for filter");
        List<Call> calls = new ArrayList<>();
        for (int[] p : wrongPairs()) {
            calls.add(onPair("unfilter", x -> x.unfilter(p[0], p[1]), p[0], p[1]));
        }
        refused(calls, BAD_ARG);
    }

    private static void unfilterNone() {
        due.by("Promise 4: NONE if there is none");
        for (int[] p : rightPairs()) {
            for (Supplier<JoinOrderer> state : STATES) {
                JoinOrderer x = state.get();
                JoinOrderer twin = state.get();
                x.unfilter(p[0], p[1]);
                twin.unfilter(p[0], p[1]);
                due.same("unfilter(" + p[0] + ", " + p[1] + ")", x.unfilter(p[0], p[1]), NONE);
                due.same("unfilter(" + p[1] + ", " + p[0] + ")", x.unfilter(p[1], p[0]), NONE);
                due.same("nothing changed", everything(x).equals(everything(twin)), true);
            }
        }
    }

    private static void gain() {
        due.by("Promise 16: BAD_ARG as for filter");
        List<Call> calls = new ArrayList<>();
        for (int[] p : wrongPairs()) {
            calls.add(onPair("gain", x -> x.gain(p[0], p[1]), p[0], p[1]));
        }
        refused(calls, BAD_ARG);
        due.by("Promise 16: nothing is changed by what is only asked");
        for (int[] p : rightPairs()) {
            for (Supplier<JoinOrderer> state : STATES) {
                JoinOrderer x = state.get();
                x.gain(p[0], p[1]);
                due.same("nothing changed", everything(x).equals(everything(state.get())), true);
            }
        }
    }

    private static void connected() {
        due.by("Promise 6: false if it is not 1 to 31");
        List<Call> calls = new ArrayList<>();
        for (int set : Made.WRONG_SETS) {
            calls.add(new Call("connected(" + set + ")", x -> x.connected(set) ? 1 : 0));
        }
        refused(calls, 0);
    }

    private static void noSuchPlan() {
        due.by("Promise 11: NONE if the set has one table");
        List<Call> calls = new ArrayList<>();
        for (int i : RIGHT_TABLES) {
            calls.add(new Call("left(" + (1 << i) + ")", x -> x.left(1 << i)));
        }
        refused(calls, NONE);
        due.by("Promise 12: NONE if there is none");
        calls.clear();
        for (int set = 1; set <= 31; set++) {
            int one = set;
            int tables = Integer.bitCount(set);
            for (int k : new int[] {-1, tables, 5, 32, Integer.MIN_VALUE, Integer.MAX_VALUE}) {
                calls.add(new Call("linearTable(" + one + ", " + k + ")", x -> x.linearTable(one, k)));
            }
        }
        refused(calls, NONE);
        due.by("Promise 9: NONE if there is none");
        List<Integer> untouched = everything(new JoinOrderer());
        for (int set = 1; set <= 31; set++) {
            JoinOrderer x = new JoinOrderer();
            due.same("linkedCost(" + set + ")", x.linkedCost(set), Integer.bitCount(set) == 1 ? 0 : NONE);
            due.same("nothing changed", everything(x).equals(untouched), true);
        }
    }

    private static void askingLeavesNoTrace() {
        due.by("Nothing is promised beyond the answers and state changes described: an answer leaves no trace in the next");
        for (Supplier<JoinOrderer> state : STATES) {
            for (SetCall next : INT_CALLS_WITH_A_SET) {
                for (int set = 1; set <= 31; set++) {
                    int want = next.asked.answer(state.get(), set);
                    JoinOrderer x = state.get();
                    for (SetCall first : INT_CALLS_WITH_A_SET) {
                        first.asked.answer(x, 31);
                        due.same(next.of(set).name + " after " + first.of(31).name, next.asked.answer(x, set), want);
                    }
                    x.gain(0, 4);
                    due.same(next.of(set).name + " after gain", next.asked.answer(x, set), want);
                }
            }
        }
    }

    private static List<int[]> rightPairs() {
        List<int[]> pairs = new ArrayList<>();
        for (int i : RIGHT_TABLES) {
            for (int j : RIGHT_TABLES) {
                if (i != j) {
                    pairs.add(new int[] {i, j});
                }
            }
        }
        return pairs;
    }

    private static List<int[]> wrongPairs() {
        List<int[]> pairs = new ArrayList<>();
        for (int i : RIGHT_TABLES) {
            pairs.add(new int[] {i, i});
            for (int wrong : Made.WRONG_TABLES) {
                pairs.add(new int[] {i, wrong});
                pairs.add(new int[] {wrong, i});
            }
        }
        for (int wrong : Made.WRONG_TABLES) {
            pairs.add(new int[] {wrong, wrong});
            pairs.add(new int[] {wrong, Made.WRONG_TABLES[0]});
        }
        return pairs;
    }

    private static void neverThrows() {
        due.by("No call ever throws");
        for (Supplier<JoinOrderer> state : STATES) {
            for (int a : EXTREMES) {
                JoinOrderer x = state.get();
                noThrow("connected(" + a + ")", () -> x.connected(a));
                for (SetCall call : INT_CALLS_WITH_A_SET) {
                    noThrow(call.of(a).name, () -> call.asked.answer(x, a));
                }
                forEachOther(a, "table", x::table);
                forEachOther(a, "unfilter", x::unfilter);
                forEachOther(a, "gain", x::gain);
                forEachOther(a, "linearTable", x::linearTable);
                for (int b : EXTREMES) {
                    JoinOrderer y = state.get();
                    forEachOther(b, "filter " + a, (j, strength) -> y.filter(a, j, strength));
                    noThrow("cost(31)", () -> y.cost(31));
                }
            }
        }
    }

    private static void forEachOther(int a, String name, IntBinaryOperator call) {
        for (int b : EXTREMES) {
            noThrow(name + "(" + a + ", " + b + ")", () -> call.applyAsInt(a, b));
        }
    }

    private static void noThrow(String name, Runnable call) {
        boolean thrown = false;
        try {
            call.run();
        } catch (RuntimeException | Error e) {
            thrown = true;
        }
        due.same(name + " throws", thrown, false);
    }
}
