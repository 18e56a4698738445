/** One test for each sentence of the document that holds for all calls: how long an object is used, and the terms. */
public final class TermsTest {
    private static final int BAD_ARG = Made.BAD_ARG;
    private static final int NONE = Made.NONE;

    private static final Due due = new Due();

    public static void main(String[] args) {
        allOf512Calls();
        tablesAre0To4();
        exponentsAre0To6();
        strengthsAre0To6();
        strengthIsTheSameBothWays();
        noFilterIsNoStrengthAndNoLink();
        strengthZeroLinks();
        setsAreSumsOfPowers();
        sizeIsTheSumLessTheStrengths();
        sizeIsOneIfNegative();
        emptySetIsNotAsked();
        oneTableIsConnected();
        partedSetsAreNotConnected();
        linksOutsideASetDoNotConnectIt();
        oneTableHasOnePlan();
        plansAreOrderedPairs();
        bothPartsHaveTables();
        costIsTheSumAndTheSize();
        costOfATableIsZero();
        oneTableIsLinear();
        rightPartOfLinearIsOneTable();
        oneTableIsLinked();
        bothPartsAreLinked();
        someTableOfTheLeftIsLinked();
        theConstants();
        due.end();
    }

    private static void allOf512Calls() {
        due.by("An object is used for at most 512 calls after it has been made");
        JoinOrderer x = new JoinOrderer();
        int before = 3;
        for (int round = 0; round < 127; round++) {
            due.same("filter, round " + round, x.filter(0, 1, 6), 0);
            due.same("gain, round " + round, x.gain(1, 0), 0);
            due.same("table, round " + round, x.table(4, round % 7), before);
            due.same("unfilter, round " + round, x.unfilter(1, 0), 6);
            before = round % 7;
        }
        due.same("call 509", x.table(4, 3), before);
        due.same("call 510", x.cost(31), 33408);
        due.same("call 511", x.linearTable(31, 4), 4);
        due.same("call 512", x.cheapest(31), 480);
    }

    private static void tablesAre0To4() {
        due.by("TABLES are 0 to 4");
        JoinOrderer x = new JoinOrderer();
        for (int i = -2; i <= 6; i++) {
            boolean right = i >= 0 && i <= 4;
            due.same("table(" + i + ", 2)", x.table(i, 2), right ? 3 : BAD_ARG);
        }
        due.same("size(31)", x.size(31), 1 << 10);
    }

    private static void exponentsAre0To6() {
        due.by("table i has a SIZE of 2 to the power a(i), a(i) from 0 to 6");
        JoinOrderer x = new JoinOrderer();
        for (int i = 0; i < 5; i++) {
            for (int a = 0; a <= 6; a++) {
                x.table(i, a);
                due.same("size of a table, a = " + a, x.size(1 << i), 1 << a);
            }
        }
        due.same("table(0, -1)", x.table(0, -1), BAD_ARG);
        due.same("table(0, 7)", x.table(0, 7), BAD_ARG);
        due.same("size(1)", x.size(1), 64);
    }

    private static void strengthsAre0To6() {
        due.by("there may be a FILTER of STRENGTH 0 to 6");
        JoinOrderer x = Made.tables(6, 6, 6, 6, 6);
        for (int strength = -1; strength <= 7; strength++) {
            boolean right = strength >= 0 && strength <= 6;
            due.same("filter of " + strength, x.filter(1, 4, strength), !right ? BAD_ARG : strength == 0 ? 0 : 1);
            due.same("size with " + strength, x.size(18), 1 << 12 - Math.max(0, Math.min(6, strength)));
        }
    }

    private static void strengthIsTheSameBothWays() {
        due.by("(the same both ways)");
        for (int i = 0; i < 5; i++) {
            for (int j = 0; j < 5; j++) {
                if (i != j) {
                    JoinOrderer x = new JoinOrderer();
                    x.filter(i, j, 4);
                    due.same("size", x.size(Made.pair(i, j)), 4);
                    due.same("gain", x.gain(j, i), x.gain(i, j));
                    due.same("filter the other way", x.filter(j, i, 5), 1);
                    due.same("size, once more", x.size(Made.pair(i, j)), 2);
                    due.same("unfilter the first way", x.unfilter(i, j), 5);
                    due.same("unfilter the other way", x.unfilter(j, i), NONE);
                }
            }
        }
    }

    private static void noFilterIsNoStrengthAndNoLink() {
        due.by("without one the strength is 0 and the tables are not LINKED");
        for (int i = 0; i < 5; i++) {
            for (int j = 0; j < i; j++) {
                JoinOrderer x = Made.allLinked(3, 1);
                x.unfilter(i, j);
                int pair = Made.pair(i, j);
                due.same("size", x.size(pair), 64);
                due.same("size of all", x.size(31), 1 << 15 - 9);
                due.same("connected", x.connected(pair), false);
                due.same("linkedCost", x.linkedCost(pair), NONE);
                due.same("linkedPlans", x.linkedPlans(pair), 0);
            }
        }
    }

    private static void strengthZeroLinks() {
        due.by("with one, of strength 0 too, they are");
        for (int i = 0; i < 5; i++) {
            for (int j = 0; j < i; j++) {
                JoinOrderer x = new JoinOrderer();
                x.filter(i, j, 0);
                int pair = Made.pair(i, j);
                due.same("size", x.size(pair), 64);
                due.same("connected", x.connected(pair), true);
                due.same("linkedCost", x.linkedCost(pair), 64);
                due.same("linkedPlans", x.linkedPlans(pair), 2);
                due.same("filter once more", x.filter(i, j, 0), 1);
                due.same("unfilter", x.unfilter(i, j), 0);
                due.same("connected after unfilter", x.connected(pair), false);
            }
        }
    }

    private static void setsAreSumsOfPowers() {
        due.by("A SET of tables is the number that has 2 to the power i added up for its tables i");
        for (int i = 0; i < 5; i++) {
            JoinOrderer x = Made.tables(0, 0, 0, 0, 0);
            x.table(i, 6);
            for (int set = 1; set <= 31; set++) {
                boolean inSet = set / (1 << i) % 2 == 1;
                due.same("size(" + set + ") with table " + i, x.size(set), inSet ? 64 : 1);
            }
        }
    }

    private static void sizeIsTheSumLessTheStrengths() {
        due.by("s the sum of the a(i) of its tables less the strengths of all pairs of its tables");
        for (int i = 0; i < 5; i++) {
            for (int j = 0; j < i; j++) {
                JoinOrderer x = Made.tables(6, 5, 4, 5, 6);
                int[] a = {6, 5, 4, 5, 6};
                x.filter(i, j, 5);
                for (int set = 1; set <= 31; set++) {
                    int s = (set & Made.pair(i, j)) == Made.pair(i, j) ? -5 : 0;
                    for (int t = 0; t < 5; t++) {
                        s += set / (1 << t) % 2 * a[t];
                    }
                    due.same("size(" + set + "), filter " + i + "-" + j, x.size(set), 1 << s);
                }
            }
        }
    }

    // From s = 30 down to s = -60: a shift by a negative number would come round again at -32.
    private static void sizeIsOneIfNegative() {
        due.by("but 1 if s is negative");
        int[] first = {0, 0, 0, 0, 1, 1, 1, 2, 2, 3};
        int[] second = {1, 2, 3, 4, 2, 3, 4, 3, 4, 4};
        for (int a = 0; a <= 6; a++) {
            JoinOrderer x = Made.tables(a, a, a, a, a);
            for (int sum = 0; sum <= 60; sum++) {
                int last = (sum - 1) / 6;
                if (sum > 0) {
                    x.filter(first[last], second[last], (sum - 1) % 6 + 1);
                }
                int s = 5 * a - sum;
                due.same("size(31) with s = " + s, x.size(31), s < 0 ? 1 : 1 << s);
            }
        }
        JoinOrderer pair = Made.tables(1, 2);
        int[] sizes = {8, 4, 2, 1, 1, 1, 1};
        for (int strength = 0; strength <= 6; strength++) {
            pair.filter(0, 1, strength);
            due.same("size(3) with s = " + (3 - strength), pair.size(3), sizes[strength]);
        }
        due.same("what is below 0 counts in a larger set", pair.size(7), 1);
        pair.table(2, 6);
        due.same("what is below 0 counts in a larger set", pair.size(7), 8);
    }

    private static void emptySetIsNotAsked() {
        due.by("that of the empty set is 1 (but no call takes it)");
        due.same("size(0)", new JoinOrderer().size(0), BAD_ARG);
    }

    private static void oneTableIsConnected() {
        due.by("A set is CONNECTED if it has one table");
        JoinOrderer without = new JoinOrderer();
        JoinOrderer with = Made.allLinked(0, 6);
        for (int i = 0; i < 5; i++) {
            due.same("without filters", without.connected(1 << i), true);
            due.same("with filters", with.connected(1 << i), true);
        }
    }

    private static void partedSetsAreNotConnected() {
        due.by("or if its tables can't be parted into two sets, neither of them empty, without a link");
        for (int apart = 1; apart <= 30; apart++) {
            JoinOrderer x = Made.allLinked(3, 0);
            for (int i = 0; i < 5; i++) {
                for (int j = 0; j < i; j++) {
                    if ((apart >> i & 1) != (apart >> j & 1)) {
                        x.unfilter(i, j);
                    }
                }
            }
            due.same(apart + " against the rest", x.connected(31), false);
            due.same(apart + " alone", x.connected(apart), true);
            due.same("the rest of " + apart, x.connected(31 - apart), true);
            x.filter(Integer.numberOfTrailingZeros(apart), Integer.numberOfTrailingZeros(31 - apart), 0);
            due.same(apart + " with one link to the rest", x.connected(31), true);
        }
        JoinOrderer longWay = new JoinOrderer();
        longWay.filter(0, 4, 0);
        longWay.filter(4, 1, 0);
        longWay.filter(1, 3, 0);
        due.same("0-4-1-3", longWay.connected(31), false);
        longWay.filter(3, 2, 0);
        due.same("0-4-1-3-2", longWay.connected(31), true);
    }

    private static void linksOutsideASetDoNotConnectIt() {
        due.by("a link from a table of one to a table of the other");
        JoinOrderer star = new JoinOrderer();
        for (int i = 0; i < 4; i++) {
            star.filter(i, 4, 1);
        }
        for (int set = 1; set <= 31; set++) {
            boolean want = set >= 16 || Integer.bitCount(set) == 1;
            due.same("connected(" + set + ") of a star around 4", star.connected(set), want);
        }
    }

    private static void oneTableHasOnePlan() {
        due.by("A PLAN of a set with one table is that table");
        JoinOrderer x = new JoinOrderer();
        for (int i = 0; i < 5; i++) {
            due.same("plans", x.plans(1 << i), 1);
            due.same("cheapest", x.cheapest(1 << i), 1);
            due.same("linearTable", x.linearTable(1 << i, 0), i);
        }
    }

    private static void plansAreOrderedPairs() {
        due.by("A plan of a set with more tables is an ordered pair");
        JoinOrderer x = Made.tables(0, 1, 2, 3, 4);
        due.same("two tables", x.plans(24), 2);
        due.same("two tables, the cheapest", x.cheapest(24), 2);
        due.same("one tree, each of its four pairs in two orders", x.cheapest(31), 16);
        x.filter(3, 4, 1);
        due.same("two tables, linked", x.linkedPlans(24), 2);
    }

    private static void bothPartsHaveTables() {
        due.by("where A and B are not empty, have no table in common, and together are the set");
        JoinOrderer[] all = {new JoinOrderer(), Made.chain(6), Made.allLinked(0, 6), Made.tables(6, 0, 6, 0, 6)};
        for (JoinOrderer x : all) {
            for (int set = 1; set <= 31; set++) {
                if (Integer.bitCount(set) > 1) {
                    int left = x.left(set);
                    boolean part = left > 0 && left < set && (left & set) == left;
                    due.same("left(" + set + ") is a part", part, true);
                    due.same("the parts' costs of " + set, x.cost(left) + x.cost(set - left) + x.size(set), x.cost(set));
                }
            }
        }
    }

    private static void costIsTheSumAndTheSize() {
        due.by("Its COST is the sum of the costs of both plus the size of the set");
        JoinOrderer x = Made.tables(1, 2, 4, 0, 0);
        due.same("cost of two", x.cost(3), 8);
        due.same("cost of three, 0 and 1 first", x.cost(7), 8 + 128);
        due.same("worst of three, 1 and 2 first", x.worst(7), 64 + 128);
        due.same("two pairs", Made.tables(3, 3, 3, 3, 3).cost(15), 64 + 64 + 4096);
        due.same("each join counts, of size 1 too", Made.allLinked(0, 6).cost(31), 4);
    }

    private static void costOfATableIsZero() {
        due.by("the cost of a table is 0");
        JoinOrderer x = Made.tables(6, 6, 6, 0, 0);
        for (int i = 0; i < 5; i++) {
            due.same("cost", x.cost(1 << i), 0);
            due.same("linearCost", x.linearCost(1 << i), 0);
            due.same("linkedCost", x.linkedCost(1 << i), 0);
            due.same("worst", x.worst(1 << i), 0);
        }
    }

    private static void oneTableIsLinear() {
        due.by("A plan is LINEAR if it is one table");
        JoinOrderer x = Made.tables(6, 0, 6, 0, 6);
        for (int i = 0; i < 5; i++) {
            due.same("linearCost", x.linearCost(1 << i), 0);
            due.same("linearTable", x.linearTable(1 << i, 0), i);
            due.same("linearTable, no second", x.linearTable(1 << i, 1), NONE);
        }
    }

    private static void rightPartOfLinearIsOneTable() {
        due.by("or its right part is one table and its left part linear");
        JoinOrderer x = new JoinOrderer();
        due.same("two pairs are not linear", x.linearCost(15), 64 + 512 + 4096);
        due.same("two tables are", x.linearCost(24), 64);
        x.filter(1, 2, 6);
        int[] order = {1, 2, 0};
        for (int k = 0; k < 3; k++) {
            due.same("0 with the pair 1-2 on its right is not linear, k = " + k, x.linearTable(7, k), order[k]);
        }
        x.filter(3, 4, 6);
        due.same("two strong pairs", x.linearCost(30), 1 + 8 + 1);
        due.same("two strong pairs, not linear", x.cost(30), 1 + 1 + 1);
    }

    private static void oneTableIsLinked() {
        due.by("A plan is LINKED if it is one table");
        JoinOrderer x = new JoinOrderer();
        for (int i = 0; i < 5; i++) {
            due.same("linkedPlans", x.linkedPlans(1 << i), 1);
            due.same("linkedCost", x.linkedCost(1 << i), 0);
        }
    }

    private static void bothPartsAreLinked() {
        due.by("or both parts are linked");
        JoinOrderer star = Made.tables(6, 0, 0, 0, 0);
        int[] counts = {1, 2, 8, 48, 384};
        for (int leaf = 1; leaf <= 4; leaf++) {
            star.filter(0, leaf, 0);
            int set = (2 << leaf) - 1;
            due.same("linkedPlans(" + set + ") of a star", star.linkedPlans(set), counts[leaf]);
            due.same("linkedCost(" + set + ") of a star", star.linkedCost(set), 64 * leaf);
        }
        due.same("cost(31) of a star", star.cost(31), 3 + 64);
        JoinOrderer y = new JoinOrderer();
        y.filter(0, 1, 1);
        due.same("2 is in no linked plan", y.linkedPlans(7), 0);
    }

    private static void someTableOfTheLeftIsLinked() {
        due.by("and some table of the left set is linked with some table of the right set");
        JoinOrderer x = new JoinOrderer();
        x.filter(0, 1, 2);
        x.filter(2, 3, 2);
        due.same("two pairs apart", x.linkedPlans(15), 0);
        due.same("two pairs apart", x.linkedCost(15), NONE);
        x.filter(3, 1, 0);
        due.same("a chain", x.linkedPlans(15), 40);
        due.same("a chain", x.linkedCost(15), 16 + 16 + 256);
        x.filter(0, 2, 0);
        due.same("two links between two parts count once", x.linkedPlans(15), 80);
    }

    private static void theConstants() {
        due.by("BAD_ARG = -1, NONE = -4");
        due.same("BAD_ARG", JoinOrderer.BAD_ARG, -1);
        due.same("NONE", JoinOrderer.NONE, -4);
    }
}
