import java.util.ArrayList;
import java.util.List;

/**
 * Long mixed runs of calls, right and wrong ones, each answer held against the plans written out in
 * full. The runs come from a fixed sequence of numbers, so they are the same each time.
 */
public final class WalksTest {
    private static final int BAD_ARG = -1;
    private static final int NONE = -4;
    private static final int WALKS = 120;
    private static final int CALLS = 512;

    private static final Due due = new Due();

    private final JoinOrderer program = new JoinOrderer();
    private final PlanList list = new PlanList();
    private final List<String> calls = new ArrayList<>();
    private final int greatestStrength;
    private long state;

    private WalksTest(int walk) {
        state = walk * 0x9E3779B97F4A7C15L + 1;
        greatestStrength = walk % 7;
    }

    public static void main(String[] args) {
        for (int walk = 0; walk < WALKS && due.allRight(); walk++) {
            new WalksTest(walk).run();
        }
        due.end();
    }

    private void run() {
        for (int n = 0; n < CALLS && due.allRight(); n++) {
            int choice = number(0, 19);
            if (choice < 9) {
                changeOrGain(choice);
            } else {
                ask(choice - 9);
            }
        }
        if (!due.allRight()) {
            System.out.println("after: " + String.join("; ", calls));
        }
    }

    private int number(int least, int greatest) {
        state = state * 6364136223846793005L + 1442695040888963407L;
        return least + (int) ((state >>> 33) % (greatest - least + 1));
    }

    private int mostlyFrom(int least, int greatest) {
        int chance = number(0, 39);
        if (chance == 0) {
            int[] wrong = {least - 1, greatest + 1, Integer.MIN_VALUE, Integer.MAX_VALUE};
            return wrong[number(0, 3)];
        }
        return number(least, greatest);
    }

    private void check(String call, int got, int want) {
        calls.add(call);
        due.same(call, got, want);
    }

    private static boolean isPair(int i, int j) {
        return i >= 0 && i <= 4 && j >= 0 && j <= 4 && i != j;
    }

    private void changeOrGain(int choice) {
        int i = mostlyFrom(0, 4);
        int j = mostlyFrom(0, 4);
        String pair = "(" + i + ", " + j;
        if (choice < 3) {
            int x = mostlyFrom(0, 6);
            check("table(" + i + ", " + x + ")", program.table(i, x), table(i, x));
        } else if (choice < 6) {
            int x = number(0, 2) == 0 ? mostlyFrom(0, 6) : number(0, greatestStrength);
            check("filter" + pair + ", " + x + ")", program.filter(i, j, x), filter(i, j, x));
        } else if (choice < 8) {
            int want = !isPair(i, j) ? BAD_ARG : list.putFilter(i, j, NONE);
            check("unfilter" + pair + ")", program.unfilter(i, j), want);
        } else {
            int want = !isPair(i, j) ? BAD_ARG : list.gain(i, j);
            check("gain" + pair + ")", program.gain(i, j), want);
        }
    }

    private int table(int i, int x) {
        if (i < 0 || i > 4 || x < 0 || x > 6) {
            return BAD_ARG;
        }
        int before = list.exponents[i];
        list.exponents[i] = x;
        return before;
    }

    private int filter(int i, int j, int x) {
        if (!isPair(i, j) || x < 0 || x > 6) {
            return BAD_ARG;
        }
        return list.putFilter(i, j, x) == NONE ? 0 : 1;
    }

    private void ask(int choice) {
        int set = mostlyFrom(1, 31);
        boolean right = set >= 1 && set <= 31;
        String of = "(" + set + ")";
        switch (choice) {
            case 0 -> check("size" + of, program.size(set), right ? list.size(set) : BAD_ARG);
            case 1 -> check("connected" + of, program.connected(set) ? 1 : 0, right && list.connected(set) ? 1 : 0);
            case 2 -> check("cost" + of, program.cost(set), right ? list.cost(set) : BAD_ARG);
            case 3 -> check("linearCost" + of, program.linearCost(set), right ? list.linearCost(set) : BAD_ARG);
            case 4 -> check("linkedCost" + of, program.linkedCost(set), right ? list.linkedCost(set) : BAD_ARG);
            case 5 -> check("worst" + of, program.worst(set), right ? list.worst(set) : BAD_ARG);
            case 6 -> check("left" + of, program.left(set), right ? list.left(set) : BAD_ARG);
            case 7 -> {
                int k = mostlyFrom(0, 5);
                check("linearTable(" + set + ", " + k + ")", program.linearTable(set, k),
                        right ? list.linearTable(set, k) : BAD_ARG);
            }
            case 8 -> check("plans" + of, program.plans(set), right ? list.plans(set) : BAD_ARG);
            case 9 -> check("linkedPlans" + of, program.linkedPlans(set), right ? list.linkedPlans(set) : BAD_ARG);
            default -> check("cheapest" + of, program.cheapest(set), right ? list.cheapest(set) : BAD_ARG);
        }
    }
}
