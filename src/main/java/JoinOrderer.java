/**
 * Five tables to be joined pair by pair: how large what comes out is, and the cheapest way to join
 * them. A set of tables is a number from 1 to 31, bit i standing for table i.
 */
public final class JoinOrderer {
    public static final int BAD_ARG = -1;
    public static final int NONE = -4;

    private static final int TABLES = 5;
    private static final int PAIRS = TABLES * TABLES;
    private static final int SETS = 1 << TABLES;
    private static final int ALL_TABLES = SETS - 1;
    private static final int GREATEST = 6;
    private static final int FIRST_EXPONENT = 3;

    // Above every cost: the greatest is 2^30 + 2^24 + 2^18 + 2^12.
    private static final int ABOVE_ALL_COSTS = 0x7fffffff;

    private final int[] exponents = new int[TABLES];

    // Both orders of a pair are kept, and 0 where there is no filter, so that reading needs no test.
    private final int[] strengths = new int[PAIRS];

    // The tables that a table has a filter with, as a set: a filter of strength 0 is a link too.
    private final int[] links = new int[TABLES];

    // Scratch, filled anew by each call that asks, so that no answer can be out of date.
    private final int[] costs = new int[SETS];
    private final int[] counts = new int[SETS];

    public JoinOrderer() {
        for (int i = 0; i < TABLES; i++) {
            exponents[i] = FIRST_EXPONENT;
        }
    }

    public int table(int i, int x) {
        if (!isTable(i) || !isExponent(x)) {
            return BAD_ARG;
        }
        int before = exponents[i];
        exponents[i] = x;
        return before;
    }

    public int filter(int i, int j, int x) {
        if (!isPair(i, j) || !isExponent(x)) {
            return BAD_ARG;
        }
        int before = hasTable(links[i], j) ? 1 : 0;
        links[i] |= 1 << j;
        links[j] |= 1 << i;
        putStrength(i, j, x);
        return before;
    }

    public int unfilter(int i, int j) {
        if (!isPair(i, j)) {
            return BAD_ARG;
        }
        if (!hasTable(links[i], j)) {
            return NONE;
        }
        int before = strengths[i * TABLES + j];
        links[i] &= ~(1 << j);
        links[j] &= ~(1 << i);
        putStrength(i, j, 0);
        return before;
    }

    public int size(int set) {
        if (!isSet(set)) {
            return BAD_ARG;
        }
        return sizeOf(set);
    }

    public boolean connected(int set) {
        if (!isSet(set)) {
            return false;
        }
        int reached = set & -set;
        // Each round but the last reaches one table more at least, so as many rounds as tables do.
        for (int round = 0; round < TABLES; round++) {
            reached |= linkedWith(reached) & set;
        }
        return reached == set;
    }

    public int cost(int set) {
        if (!isSet(set)) {
            return BAD_ARG;
        }
        fillLeastCosts(set);
        return costs[set];
    }

    public int linearCost(int set) {
        if (!isSet(set)) {
            return BAD_ARG;
        }
        fillLinearCosts(set);
        return costs[0];
    }

    public int linkedCost(int set) {
        if (!isSet(set)) {
            return BAD_ARG;
        }
        for (int s = 1; s <= set; s++) {
            costs[s] = needsNoJoin(s) ? 0 : leastLinkedCost(s);
        }
        return costs[set];
    }

    public int worst(int set) {
        if (!isSet(set)) {
            return BAD_ARG;
        }
        for (int s = 1; s <= set; s++) {
            costs[s] = needsNoJoin(s) ? 0 : greatestCost(s);
        }
        return costs[set];
    }

    public int left(int set) {
        if (!isSet(set)) {
            return BAD_ARG;
        }
        if (needsNoJoin(set)) {
            return NONE;
        }
        fillLeastCosts(set);
        int parts = leastCostOfParts(set);
        for (int a = 1; a < set; a++) {
            if (isPart(a, set) && costs[a] + costs[set ^ a] == parts) {
                return a;
            }
        }
        return NONE;
    }

    public int linearTable(int set, int k) {
        if (!isSet(set)) {
            return BAD_ARG;
        }
        if (k < 0 || k >= TABLES) {
            return NONE;
        }
        fillLinearCosts(set);
        int joined = 0;
        for (int place = 0; place < k; place++) {
            if (joined != set) {
                joined |= 1 << nextTable(joined, set);
            }
        }
        return joined == set ? NONE : nextTable(joined, set);
    }

    public int plans(int set) {
        if (!isSet(set)) {
            return BAD_ARG;
        }
        return countPlans(set, false);
    }

    public int linkedPlans(int set) {
        if (!isSet(set)) {
            return BAD_ARG;
        }
        return countPlans(set, true);
    }

    public int cheapest(int set) {
        if (!isSet(set)) {
            return BAD_ARG;
        }
        fillLeastCosts(set);
        for (int s = 1; s <= set; s++) {
            counts[s] = needsNoJoin(s) ? 1 : countCheapest(s);
        }
        return counts[set];
    }

    public int gain(int i, int j) {
        if (!isPair(i, j)) {
            return BAD_ARG;
        }
        fillLeastCosts(ALL_TABLES);
        int before = costs[ALL_TABLES];
        int kept = strengths[i * TABLES + j];
        // The least cost does not look at links, so the strength alone is tried and put back.
        putStrength(i, j, GREATEST);
        fillLeastCosts(ALL_TABLES);
        putStrength(i, j, kept);
        return before - costs[ALL_TABLES];
    }

    private static boolean isTable(int i) {
        return i >= 0 && i < TABLES;
    }

    private static boolean isPair(int i, int j) {
        return isTable(i) && isTable(j) && i != j;
    }

    private static boolean isExponent(int x) {
        return x >= 0 && x <= GREATEST;
    }

    private static boolean isSet(int set) {
        return set >= 1 && set <= ALL_TABLES;
    }

    // At most one table: the empty set counts too, as what is joined before the first table.
    private static boolean needsNoJoin(int set) {
        return (set & (set - 1)) == 0;
    }

    private static boolean isPart(int part, int set) {
        return (part & ~set) == 0;
    }

    private static boolean hasTable(int set, int i) {
        return (set & (1 << i)) != 0;
    }

    private void putStrength(int i, int j, int x) {
        strengths[i * TABLES + j] = x;
        strengths[j * TABLES + i] = x;
    }

    private int sizeOf(int set) {
        int exponent = 0;
        for (int i = 0; i < TABLES; i++) {
            if (hasTable(set, i)) {
                exponent += exponents[i] - strengthWithEarlier(set, i);
            }
        }
        return exponent < 0 ? 1 : 1 << exponent;
    }

    // Only earlier tables, so that each pair of a set is counted once.
    private int strengthWithEarlier(int set, int i) {
        int sum = 0;
        for (int j = 0; j < i; j++) {
            if (hasTable(set, j)) {
                sum += strengths[i * TABLES + j];
            }
        }
        return sum;
    }

    private int linkedWith(int set) {
        int found = 0;
        for (int i = 0; i < TABLES; i++) {
            if (hasTable(set, i)) {
                found |= links[i];
            }
        }
        return found;
    }

    private boolean areLinked(int a, int b) {
        return (linkedWith(a) & b) != 0;
    }

    // A part of a set is a smaller number than the set, so going upwards has every part ready.
    private void fillLeastCosts(int set) {
        for (int s = 1; s <= set; s++) {
            costs[s] = needsNoJoin(s) ? 0 : leastCostOfParts(s) + sizeOf(s);
        }
    }

    private int leastCostOfParts(int set) {
        int least = ABOVE_ALL_COSTS;
        for (int a = 1; a < set; a++) {
            if (isPart(a, set) && costs[a] + costs[set ^ a] < least) {
                least = costs[a] + costs[set ^ a];
            }
        }
        return least;
    }

    private int leastLinkedCost(int set) {
        int least = ABOVE_ALL_COSTS;
        for (int a = 1; a < set; a++) {
            int b = set ^ a;
            if (isPart(a, set) && costs[a] != NONE && costs[b] != NONE && areLinked(a, b)
                    && costs[a] + costs[b] < least) {
                least = costs[a] + costs[b];
            }
        }
        return least == ABOVE_ALL_COSTS ? NONE : least + sizeOf(set);
    }

    private int greatestCost(int set) {
        int greatest = 0;
        for (int a = 1; a < set; a++) {
            if (isPart(a, set) && costs[a] + costs[set ^ a] > greatest) {
                greatest = costs[a] + costs[set ^ a];
            }
        }
        return greatest + sizeOf(set);
    }

    // For each part of the set, as what is joined so far: its size and the least cost of joining the
    // rest to it one table at a time. From this end the first tables of an order are chosen first.
    private void fillLinearCosts(int set) {
        costs[set] = needsNoJoin(set) ? 0 : sizeOf(set);
        for (int joined = set - 1; joined >= 0; joined--) {
            if (isPart(joined, set)) {
                int next = nextTable(joined, set);
                int rest = costs[joined | (1 << next)];
                costs[joined] = needsNoJoin(joined) ? rest : rest + sizeOf(joined);
            }
        }
    }

    // The least of the tables that lead on at the least cost; joined is a part of the set, not all.
    private int nextTable(int joined, int set) {
        int next = 0;
        int least = ABOVE_ALL_COSTS;
        for (int i = 0; i < TABLES; i++) {
            int grown = joined | (1 << i);
            if (hasTable(set ^ joined, i) && costs[grown] < least) {
                least = costs[grown];
                next = i;
            }
        }
        return next;
    }

    private int countPlans(int set, boolean onlyLinked) {
        for (int s = 1; s <= set; s++) {
            counts[s] = needsNoJoin(s) ? 1 : countPairs(s, onlyLinked);
        }
        return counts[set];
    }

    private int countPairs(int set, boolean onlyLinked) {
        int sum = 0;
        for (int a = 1; a < set; a++) {
            int b = set ^ a;
            if (isPart(a, set) && (!onlyLinked || areLinked(a, b))) {
                sum += counts[a] * counts[b];
            }
        }
        return sum;
    }

    private int countCheapest(int set) {
        int parts = leastCostOfParts(set);
        int sum = 0;
        for (int a = 1; a < set; a++) {
            int b = set ^ a;
            if (isPart(a, set) && costs[a] + costs[b] == parts) {
                sum += counts[a] * counts[b];
            }
        }
        return sum;
    }
}
