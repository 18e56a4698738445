/** Each promise of the document with answers worked out by hand: ordinary inputs, edges, wrong inputs. */
public final class PromisesTest {
    private static final int BAD_ARG = Made.BAD_ARG;
    private static final int NONE = Made.NONE;
    private static final int[] WRONG_TABLES = Made.WRONG_TABLES;
    private static final int[] WRONG_EXPONENTS = Made.WRONG_EXPONENTS;

    private static final Due due = new Due();

    public static void main(String[] args) {
        theConstants();
        promise1NewObject();
        promise2Table();
        promise3Filter();
        promise4Unfilter();
        promise5Size();
        promise6Connected();
        promise7Cost();
        promise8LinearCost();
        promise9LinkedCost();
        promise10Worst();
        promise11Left();
        promise12LinearTable();
        promise13Plans();
        promise14LinkedPlans();
        promise15Cheapest();
        promise16Gain();
        due.end();
    }

    private static void theConstants() {
        due.same("BAD_ARG", JoinOrderer.BAD_ARG, BAD_ARG);
        due.same("NONE", JoinOrderer.NONE, NONE);
    }

    private static void promise1NewObject() {
        JoinOrderer x = new JoinOrderer();
        for (int i = 0; i < 5; i++) {
            due.same("1: size(one table)", x.size(1 << i), 8);
            due.same("1: table(i, 3)", x.table(i, 3), 3);
            for (int j = 0; j < 5; j++) {
                if (i != j) {
                    due.same("1: unfilter", x.unfilter(i, j), NONE);
                    due.same("1: connected(pair)", x.connected(1 << i | 1 << j), false);
                }
            }
        }
        due.same("1: size(31)", x.size(31), 32768);
        JoinOrderer y = new JoinOrderer();
        x.table(0, 5);
        x.filter(0, 1, 2);
        due.same("1: another object's table", y.size(1), 8);
        due.same("1: another object's filter", y.unfilter(0, 1), NONE);
    }

    private static void promise2Table() {
        for (int i = 0; i < 5; i++) {
            JoinOrderer x = new JoinOrderer();
            int before = 3;
            for (int a = 0; a <= 6; a++) {
                due.same("2: table", x.table(i, a), before);
                due.same("2: size after table", x.size(1 << i), 1 << a);
                before = a;
            }
            due.same("2: the other tables", x.size(31 & ~(1 << i)), 4096);
            for (int wrong : WRONG_EXPONENTS) {
                due.same("2: wrong x", x.table(i, wrong), BAD_ARG);
                due.same("2: size after wrong x", x.size(1 << i), 64);
            }
        }
        JoinOrderer x = new JoinOrderer();
        for (int wrong : WRONG_TABLES) {
            due.same("2: wrong i", x.table(wrong, 0), BAD_ARG);
            due.same("2: size after wrong i", x.size(31), 32768);
        }
    }

    private static void promise3Filter() {
        for (int i = 0; i < 5; i++) {
            for (int j = 0; j < 5; j++) {
                if (i != j) {
                    filterOfOnePair(i, j);
                }
            }
        }
        JoinOrderer x = new JoinOrderer();
        for (int i = 0; i < 5; i++) {
            due.same("3: i and j the same", x.filter(i, i, 1), BAD_ARG);
            due.same("3: i linked with itself", x.unfilter(i, (i + 1) % 5), NONE);
            for (int wrong : WRONG_TABLES) {
                due.same("3: wrong i", x.filter(wrong, i, 1), BAD_ARG);
                due.same("3: wrong j", x.filter(i, wrong, 1), BAD_ARG);
            }
        }
        due.same("3: both wrong and the same", x.filter(5, 5, 1), BAD_ARG);
        due.same("3: size after refusals", x.size(31), 32768);
        due.same("3: linked plans after refusals", x.linkedPlans(31), 0);
    }

    private static void filterOfOnePair(int i, int j) {
        JoinOrderer x = new JoinOrderer();
        int pair = 1 << i | 1 << j;
        for (int wrong : WRONG_EXPONENTS) {
            due.same("3: wrong x", x.filter(i, j, wrong), BAD_ARG);
            due.same("3: no filter after wrong x", x.connected(pair), false);
        }
        due.same("3: new, strength 0", x.filter(i, j, 0), 0);
        due.same("3: size with strength 0", x.size(pair), 64);
        due.same("3: connected with strength 0", x.connected(pair), true);
        due.same("3: again, the other way", x.filter(j, i, 5), 1);
        due.same("3: size with strength 5", x.size(pair), 2);
        due.same("3: wrong x on a filter", x.filter(i, j, 7), BAD_ARG);
        due.same("3: size after refusal", x.size(pair), 2);
        due.same("3: weaker again", x.filter(i, j, 1), 1);
        due.same("3: size with strength 1", x.size(pair), 32);
        due.same("3: size of all", x.size(31), 16384);
    }

    private static void promise4Unfilter() {
        for (int strength = 0; strength <= 6; strength++) {
            JoinOrderer x = new JoinOrderer();
            x.filter(1, 3, strength);
            x.filter(3, 4, 2);
            due.same("4: unfilter", x.unfilter(3, 1), strength);
            due.same("4: size", x.size(10), 64);
            due.same("4: connected", x.connected(10), false);
            due.same("4: unfilter twice", x.unfilter(3, 1), NONE);
            due.same("4: unfilter twice, the other way", x.unfilter(1, 3), NONE);
            due.same("4: the other filter stays", x.size(24), 16);
            due.same("4: new after unfilter", x.filter(1, 3, 6), 0);
        }
        JoinOrderer x = Made.chain(1);
        for (int i = 0; i < 5; i++) {
            due.same("4: i and j the same", x.unfilter(i, i), BAD_ARG);
            for (int wrong : WRONG_TABLES) {
                due.same("4: wrong i", x.unfilter(wrong, i), BAD_ARG);
                due.same("4: wrong j", x.unfilter(i, wrong), BAD_ARG);
            }
        }
        due.same("4: size after refusals", x.size(31), 2048);
        due.same("4: connected after refusals", x.connected(31), true);
    }

    private static void promise5Size() {
        JoinOrderer x = Made.tables(0, 1, 2, 3, 4);
        due.same("5: size(31)", x.size(31), 1024);
        due.same("5: size(21)", x.size(21), 64);
        x.filter(1, 2, 3);
        due.same("5: s is 0", x.size(6), 1);
        x.filter(1, 2, 4);
        due.same("5: s is negative", x.size(6), 1);
        due.same("5: negative parts count in a larger set", x.size(22), 8);
        due.same("5: one table has no pair", x.size(4), 4);
        due.same("5: one of the pair", x.size(20), 64);
        JoinOrderer strong = new JoinOrderer();
        for (int i = 0; i < 5; i++) {
            for (int j = 0; j < i; j++) {
                strong.filter(i, j, 6);
            }
        }
        due.same("5: s is -45", strong.size(31), 1);
        due.same("5: the greatest size", Made.tables(6, 6, 6, 6, 6).size(31), 1 << 30);
    }

    private static void promise6Connected() {
        JoinOrderer x = Made.chain(0);
        for (int i = 0; i < 5; i++) {
            due.same("6: one table", x.connected(1 << i), true);
        }
        due.same("6: a chain", x.connected(31), true);
        due.same("6: a part of it", x.connected(14), true);
        due.same("6: a link by a table outside", x.connected(5), false);
        due.same("6: without the middle", x.connected(27), false);
        x.unfilter(1, 2);
        due.same("6: cut", x.connected(31), false);
        due.same("6: one side", x.connected(3), true);
        due.same("6: the other side", x.connected(28), true);
        // The chain 0-4-1-3-2 goes against the numbers: one pass over the tables is not enough.
        JoinOrderer y = new JoinOrderer();
        y.filter(0, 4, 1);
        y.filter(4, 1, 1);
        y.filter(1, 3, 1);
        due.same("6: table 2 alone", y.connected(31), false);
        y.filter(3, 2, 6);
        due.same("6: a long way round", y.connected(31), true);
    }

    private static void promise7Cost() {
        JoinOrderer x = Made.tables(6, 6, 6, 6, 6);
        for (int i = 0; i < 5; i++) {
            due.same("7: one table", x.cost(1 << i), 0);
        }
        due.same("7: two tables", x.cost(20), 4096);
        due.same("7: three tables", x.cost(7), (1 << 18) + (1 << 12));
        due.same("7: two pairs", x.cost(15), (1 << 24) + 2 * (1 << 12));
        due.same("7: the greatest", x.cost(31), (1 << 30) + (1 << 18) + 2 * (1 << 12));
        JoinOrderer y = Made.tables(1, 2, 3, 3, 3);
        due.same("7: the smallest first", y.cost(7), 64 + 8);
        y.filter(1, 2, 4);
        due.same("7: the filter first", y.cost(7), 4 + 2);
    }

    private static void promise8LinearCost() {
        JoinOrderer x = Made.tables(6, 6, 6, 6, 6);
        due.same("8: one table", x.linearCost(8), 0);
        due.same("8: two tables", x.linearCost(20), 4096);
        due.same("8: no two pairs", x.linearCost(15), (1 << 24) + (1 << 18) + (1 << 12));
        due.same("8: the greatest", x.linearCost(31), (1 << 30) + (1 << 24) + (1 << 18) + (1 << 12));
        JoinOrderer y = Made.tables(4, 1, 2, 0, 3);
        due.same("8: the smallest first", y.linearCost(31), 2 + 8 + 64 + 1024);
        due.same("8: three of them", y.linearCost(21), 32 + 512);
    }

    private static void promise9LinkedCost() {
        JoinOrderer x = new JoinOrderer();
        due.same("9: one table", x.linkedCost(4), 0);
        due.same("9: no filter", x.linkedCost(3), NONE);
        x.filter(0, 1, 0);
        due.same("9: strength 0", x.linkedCost(3), 64);
        due.same("9: one linked pair of three", x.linkedCost(7), NONE);
        // A star around table 0, which is large: every linked plan starts with it.
        JoinOrderer y = Made.tables(6, 0, 0, 3, 3);
        y.filter(0, 1, 0);
        y.filter(0, 2, 0);
        due.same("9: dearer than without links", y.linkedCost(7), 64 + 64);
        due.same("9: what it is without links", y.cost(7), 1 + 64);
        y.filter(3, 4, 1);
        due.same("9: two parts", y.linkedCost(31), NONE);
        y.filter(4, 0, 6);
        due.same("9: linked by a strong one", y.linkedCost(31), 8 + 8 + 8 + 32);
        y.unfilter(0, 1);
        due.same("9: after unfilter", y.linkedCost(31), NONE);
    }

    private static void promise10Worst() {
        JoinOrderer x = Made.tables(6, 6, 6, 6, 6);
        due.same("10: one table", x.worst(16), 0);
        due.same("10: two tables", x.worst(17), 4096);
        due.same("10: the greatest", x.worst(31), (1 << 30) + (1 << 24) + (1 << 18) + (1 << 12));
        JoinOrderer y = Made.tables(1, 2, 3, 4, 0);
        due.same("10: the largest first", y.worst(7), 64 + 32);
        y.filter(1, 2, 5);
        due.same("10: the filter last", y.worst(7), 2 + 16);
        // Two pairs without filters inside, strong filters between them: the worst is not linear.
        JoinOrderer z = Made.tables(6, 6, 6, 6, 0);
        z.filter(0, 2, 6);
        z.filter(0, 3, 6);
        z.filter(1, 2, 6);
        z.filter(1, 3, 6);
        due.same("10: two pairs", z.worst(15), 4096 + 4096 + 1);
    }

    private static void promise11Left() {
        JoinOrderer x = new JoinOrderer();
        for (int i = 0; i < 5; i++) {
            due.same("11: one table", x.left(1 << i), NONE);
        }
        due.same("11: two tables", x.left(24), 8);
        due.same("11: three alike", x.left(7), 1);
        due.same("11: four alike, two pairs", x.left(15), 3);
        due.same("11: five alike, a pair and three", x.left(31), 3);
        x.filter(0, 1, 2);
        due.same("11: the pair with the filter first", x.left(7), 3);
        due.same("11: no tie with this filter", x.left(19), 3);
        x.filter(1, 2, 4);
        due.same("11: the table left out", x.left(7), 1);
    }

    private static void promise12LinearTable() {
        JoinOrderer x = new JoinOrderer();
        order(x, "12: all alike", 31, 0, 1, 2, 3, 4);
        order(x, "12: some of them", 26, 1, 3, 4);
        order(x, "12: one table", 8, 3);
        order(Made.tables(4, 3, 2, 1, 0), "12: the smallest first, the first two in either order", 31, 3, 4, 2, 1, 0);
        // 2-3 must come first; then 0 and 1 are alike.
        JoinOrderer y = Made.tables(3, 3, 3, 3, 6);
        y.filter(2, 3, 6);
        order(y, "12: a filter first", 31, 2, 3, 0, 1, 4);
        // 0-3 and 1-2 are as good a start: the dictionary looks at the first table first.
        JoinOrderer z = new JoinOrderer();
        z.filter(0, 3, 1);
        z.filter(1, 2, 1);
        order(z, "12: two starts", 15, 0, 3, 1, 2);
        due.same("12: least k", z.linearTable(15, Integer.MIN_VALUE), NONE);
        due.same("12: greatest k", z.linearTable(15, Integer.MAX_VALUE), NONE);
        due.same("12: k of 32", z.linearTable(15, 32), NONE);
        due.same("12: set before k", z.linearTable(32, -1), BAD_ARG);
        due.same("12: set before k, too far", z.linearTable(0, 5), BAD_ARG);
    }

    private static void order(JoinOrderer x, String what, int set, int... tables) {
        due.same(what + ", k = -1", x.linearTable(set, -1), NONE);
        for (int k = 0; k < 7; k++) {
            int want = k < tables.length ? tables[k] : NONE;
            due.same(what + ", k = " + k, x.linearTable(set, k), want);
        }
    }

    private static void promise13Plans() {
        int[] byTables = {0, 1, 2, 12, 120, 1680};
        JoinOrderer x = Made.chain(2);
        for (int set = 1; set <= 31; set++) {
            due.same("13: plans(" + set + ")", x.plans(set), byTables[Integer.bitCount(set)]);
        }
    }

    private static void promise14LinkedPlans() {
        JoinOrderer x = new JoinOrderer();
        due.same("14: one table", x.linkedPlans(2), 1);
        due.same("14: no filter", x.linkedPlans(3), 0);
        x = Made.chain(0);
        due.same("14: a chain of two", x.linkedPlans(6), 2);
        due.same("14: a chain of three", x.linkedPlans(7), 8);
        due.same("14: a chain of four", x.linkedPlans(15), 40);
        due.same("14: a chain of five", x.linkedPlans(31), 224);
        due.same("14: a chain with a gap", x.linkedPlans(29), 0);
        for (int i = 0; i < 5; i++) {
            for (int j = 0; j < i; j++) {
                x.filter(i, j, 1);
            }
        }
        due.same("14: all linked", x.linkedPlans(31), 1680);
    }

    private static void promise15Cheapest() {
        JoinOrderer x = new JoinOrderer();
        due.same("15: one table", x.cheapest(1), 1);
        due.same("15: two tables", x.cheapest(9), 2);
        due.same("15: three alike", x.cheapest(7), 12);
        due.same("15: four alike, two pairs", x.cheapest(15), 24);
        due.same("15: five alike", x.cheapest(31), 480);
        JoinOrderer y = Made.tables(0, 1, 2, 3, 4);
        due.same("15: one pair is the best", y.cheapest(7), 4);
        JoinOrderer z = Made.tables(0, 0, 0, 0, 0);
        due.same("15: every plan", z.cheapest(31), 1680);
    }

    private static void promise16Gain() {
        JoinOrderer x = new JoinOrderer();
        // 33408 is 64 + 64 + 512 + 32768; with 0-1 at 6 the least is 1 + 8 + 64 + 512.
        due.same("16: a new one", x.gain(0, 1), 33408 - 585);
        due.same("16: it is not kept", x.unfilter(0, 1), NONE);
        due.same("16: the cost stays", x.cost(31), 33408);
        due.same("16: the links stay", x.connected(3), false);
        x.filter(0, 1, 2);
        due.same("16: with a weaker one", x.cost(31), 16 + 128 + 64 + 8192);
        due.same("16: a stronger one", x.gain(1, 0), 8400 - 585);
        due.same("16: its strength stays", x.unfilter(1, 0), 2);
        x.filter(0, 1, 6);
        due.same("16: as strong already", x.gain(0, 1), 0);
        for (int i = 0; i < 5; i++) {
            due.same("16: i and j the same", x.gain(i, i), BAD_ARG);
            for (int wrong : WRONG_TABLES) {
                due.same("16: wrong i", x.gain(wrong, i), BAD_ARG);
                due.same("16: wrong j", x.gain(i, wrong), BAD_ARG);
            }
        }
        due.same("16: after refusals", x.cost(31), 585);
        due.same("16: the greatest tables", Made.tables(6, 6, 6, 6, 6).gain(2, 4),
                (1 << 30) + (1 << 18) + 2 * (1 << 12) - (1 << 24) - (1 << 12) * 2 - (1 << 6));
    }
}
