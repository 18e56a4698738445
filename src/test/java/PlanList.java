import java.util.ArrayList;
import java.util.List;

/** The document's terms taken word for word: every plan of a set is written out, none is left out. */
final class PlanList {
    static final int NONE = -4;

    final int[] exponents = {3, 3, 3, 3, 3};
    /** The strength of the filter between two tables, or NONE. */
    final int[][] filters = new int[5][5];

    private record Plan(int cost, int left, boolean linear, boolean linked, String order) { }

    PlanList() {
        for (int[] row : filters) {
            java.util.Arrays.fill(row, NONE);
        }
    }

    int putFilter(int i, int j, int x) {
        int before = filters[i][j];
        filters[i][j] = x;
        filters[j][i] = x;
        return before;
    }

    private List<Plan> plansOf(int set) {
        List<Plan> plans = new ArrayList<>();
        if (Integer.bitCount(set) == 1) {
            plans.add(new Plan(0, NONE, true, true, "" + Integer.numberOfTrailingZeros(set)));
        }
        for (int a = 1; a < set; a++) {
            int b = set - a;
            if ((a & b) == 0) {
                pairUp(a, b, plans);
            }
        }
        return plans;
    }

    private void pairUp(int a, int b, List<Plan> plans) {
        int size = size(a + b);
        boolean link = areLinked(a, b);
        List<Plan> rights = plansOf(b);
        for (Plan l : plansOf(a)) {
            for (Plan r : rights) {
                plans.add(new Plan(l.cost + r.cost + size, a, l.linear && Integer.bitCount(b) == 1,
                        link && l.linked && r.linked, l.order + r.order));
            }
        }
    }

    private boolean areLinked(int a, int b) {
        for (int i = 0; i < 5; i++) {
            for (int j = 0; j < 5; j++) {
                if ((a >> i & 1) == 1 && (b >> j & 1) == 1 && filters[i][j] != NONE) {
                    return true;
                }
            }
        }
        return false;
    }

    int size(int set) {
        int s = 0;
        for (int i = 0; i < 5; i++) {
            for (int j = 0; j <= i; j++) {
                if ((set >> i & 1) == 1 && (set >> j & 1) == 1) {
                    s += i == j ? exponents[i] : -Math.max(0, filters[i][j]);
                }
            }
        }
        return (int) Math.pow(2, Math.max(0, s));
    }

    boolean connected(int set) {
        for (int a = 1; a < set; a++) {
            if ((a & ~set) == 0 && !areLinked(a, set - a)) {
                return false;
            }
        }
        return true;
    }

    int cost(int set) {
        return plansOf(set).stream().mapToInt(Plan::cost).min().getAsInt();
    }

    int linearCost(int set) {
        return plansOf(set).stream().filter(Plan::linear).mapToInt(Plan::cost).min().getAsInt();
    }

    int linkedCost(int set) {
        return plansOf(set).stream().filter(Plan::linked).mapToInt(Plan::cost).min().orElse(NONE);
    }

    int worst(int set) {
        return plansOf(set).stream().mapToInt(Plan::cost).max().getAsInt();
    }

    int left(int set) {
        int least = cost(set);
        return plansOf(set).stream().filter(p -> p.cost == least).mapToInt(Plan::left).min().getAsInt();
    }

    int linearTable(int set, int k) {
        int least = linearCost(set);
        String order = plansOf(set).stream().filter(p -> p.linear && p.cost == least).map(Plan::order)
                .min(String::compareTo).get();
        return k < 0 || k >= order.length() ? NONE : order.charAt(k) - '0';
    }

    int plans(int set) {
        return plansOf(set).size();
    }

    int linkedPlans(int set) {
        return (int) plansOf(set).stream().filter(Plan::linked).count();
    }

    int cheapest(int set) {
        int least = cost(set);
        return (int) plansOf(set).stream().filter(p -> p.cost == least).count();
    }

    int gain(int i, int j) {
        int before = cost(31);
        int kept = putFilter(i, j, 6);
        int after = cost(31);
        putFilter(i, j, kept);
        return before - after;
    }
}
