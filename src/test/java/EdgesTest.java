/** One test for each sentence of the promises 1 to 16 that names a boundary case. What is refused is in RefusalsTest. */
public final class EdgesTest {
    private static final int NONE = Made.NONE;

    private static final Due due = new Due();

    public static void main(String[] args) {
        promise1AllAre3();
        promise1NoFilter();
        promise2BecomesX();
        promise2WhatItWas();
        promise3ThereIsAFilter();
        promise3OneIfThereWasOne();
        promise4ThereIsNone();
        promise4ItsStrength();
        promise5LeastAndGreatest();
        promise6LeastAndGreatest();
        promise7Least();
        promise8LeastLinear();
        promise9LeastLinked();
        promise9NoneIfThereIsNone();
        promise10Greatest();
        promise11LeftSet();
        promise11LeastNumber();
        promise12AsInADictionary();
        promise12FirstAndLast();
        promise13HowMany();
        promise14HowManyLinked();
        promise15HowManyCheapest();
        promise16ByHowMuch();
        promise16NothingToGain();
        promise16ANewOne();
        promise16IsOnlyTried();
        due.end();
    }

    private static void promise1AllAre3() {
        due.by("Promise 1: All a(i) are 3");
        JoinOrderer x = new JoinOrderer();
        for (int i = 0; i < 5; i++) {
            due.same("size of table " + i, x.size(1 << i), 8);
            due.same("table(" + i + ", 6)", x.table(i, 6), 3);
        }
        JoinOrderer later = new JoinOrderer();
        for (int i = 0; i < 5; i++) {
            due.same("table(" + i + ", 0) of a later object", later.table(i, 0), 3);
        }
        due.same("size(31) of the first", x.size(31), 1 << 30);
    }

    private static void promise1NoFilter() {
        due.by("Promise 1: there is no filter");
        JoinOrderer full = Made.allLinked(3, 6);
        JoinOrderer x = new JoinOrderer();
        for (int i = 0; i < 5; i++) {
            for (int j = 0; j < i; j++) {
                due.same("connected", x.connected(Made.pair(i, j)), false);
                due.same("unfilter", x.unfilter(i, j), NONE);
                due.same("filter", x.filter(i, j, 0), 0);
            }
        }
        due.same("size(31) of another object", full.size(31), 1);
    }

    private static void promise2BecomesX() {
        due.by("Promise 2: a(i) becomes x");
        for (int i = 0; i < 5; i++) {
            JoinOrderer x = new JoinOrderer();
            x.table(i, 0);
            due.same("least", x.size(1 << i), 1);
            due.same("least, all tables", x.size(31), 1 << 12);
            x.table(i, 6);
            due.same("greatest", x.size(1 << i), 64);
            due.same("greatest, all tables", x.size(31), 1 << 18);
            due.same("the others", x.size(31 - (1 << i)), 1 << 12);
        }
    }

    private static void promise2WhatItWas() {
        due.by("Promise 2: Otherwise what it was");
        JoinOrderer x = new JoinOrderer();
        for (int i = 4; i >= 0; i--) {
            due.same("the same again", x.table(i, 3), 3);
            due.same("to the least", x.table(i, 0), 3);
            due.same("to the greatest", x.table(i, 6), 0);
            due.same("the greatest again", x.table(i, 6), 6);
            due.same("back", x.table(i, 3), 6);
        }
    }

    private static void promise3ThereIsAFilter() {
        due.by("Promise 3: There is a filter of this strength between i and j");
        for (int i = 0; i < 5; i++) {
            for (int j = 0; j < 5; j++) {
                if (i != j) {
                    JoinOrderer x = new JoinOrderer();
                    x.filter(i, j, 6);
                    due.same("greatest", x.size(Made.pair(i, j)), 1);
                    x.filter(i, j, 0);
                    due.same("weaker takes its place", x.size(Made.pair(i, j)), 64);
                    due.same("least links", x.connected(Made.pair(i, j)), true);
                    due.same("no other filter", x.size(31), 1 << 15);
                    due.same("no other link", x.connected(31), false);
                }
            }
        }
    }

    private static void promise3OneIfThereWasOne() {
        due.by("Promise 3: Otherwise 1 if there was one before, else 0");
        JoinOrderer x = new JoinOrderer();
        for (int i = 0; i < 5; i++) {
            for (int j = 0; j < i; j++) {
                due.same("new", x.filter(i, j, 0), 0);
                due.same("one of strength 0", x.filter(i, j, 0), 1);
                due.same("the other way", x.filter(j, i, 6), 1);
                due.same("one of strength 6", x.filter(i, j, 6), 1);
                x.unfilter(j, i);
                due.same("after unfilter", x.filter(i, j, 6), 0);
            }
        }
    }

    private static void promise4ThereIsNone() {
        due.by("Promise 4: There is no filter between i and j");
        for (int i = 0; i < 5; i++) {
            for (int j = 0; j < 5; j++) {
                if (i != j) {
                    JoinOrderer x = Made.allLinked(6, 2);
                    due.same("unfilter", x.unfilter(i, j), 2);
                    due.same("no strength", x.size(Made.pair(i, j)), 1 << 12);
                    due.same("no link", x.connected(Made.pair(i, j)), false);
                    due.same("the others stay", x.size(31), 1 << 30 - 18);
                    due.same("the others link", x.connected(31), true);
                    due.same("twice", x.unfilter(i, j), NONE);
                    due.same("twice, the other way", x.unfilter(j, i), NONE);
                }
            }
        }
    }

    private static void promise4ItsStrength() {
        due.by("Promise 4: Otherwise its strength");
        JoinOrderer x = new JoinOrderer();
        for (int strength = 0; strength <= 6; strength++) {
            x.filter(0, 4, strength);
            due.same("one way", x.unfilter(0, 4), strength);
            x.filter(0, 4, 6 - strength);
            due.same("the other way", x.unfilter(4, 0), 6 - strength);
        }
    }

    private static void promise5LeastAndGreatest() {
        due.by("Promise 5: The size of a set");
        JoinOrderer large = Made.tables(6, 6, 6, 6, 6);
        JoinOrderer small = Made.tables(0, 0, 0, 0, 0);
        JoinOrderer strong = Made.allLinked(0, 6);
        for (int set = 1; set <= 31; set++) {
            due.same("greatest size(" + set + ")", large.size(set), 1 << 6 * Integer.bitCount(set));
            due.same("s = 0, size(" + set + ")", small.size(set), 1);
            due.same("s least, size(" + set + ")", strong.size(set), 1);
        }
    }

    private static void promise6LeastAndGreatest() {
        due.by("Promise 6: Whether the set is connected");
        JoinOrderer bare = new JoinOrderer();
        JoinOrderer full = Made.allLinked(3, 0);
        for (int set = 1; set <= 31; set++) {
            due.same("no filter, connected(" + set + ")", bare.connected(set), Integer.bitCount(set) == 1);
            due.same("all filters, connected(" + set + ")", full.connected(set), true);
        }
        due.by("Promise 6: false if it is not 1 to 31");
        for (int set : Made.WRONG_SETS) {
            due.same("connected(" + set + ")", full.connected(set), false);
        }
    }

    private static void promise7Least() {
        due.by("Promise 7: The least cost of a plan of the set");
        due.same("the greatest", Made.tables(6, 6, 6, 6, 6).cost(31), (1 << 30) + (1 << 18) + 2 * (1 << 12));
        due.same("the least", Made.tables(0, 0, 0, 0, 0).cost(31), 4);
        due.same("a pair of size 1", Made.allLinked(3, 6).cost(24), 1);
        // Joining 1 to 4, which are not linked, costs 1 a join; only then comes the large table 0.
        JoinOrderer star = Made.tables(6, 0, 0, 0, 0);
        for (int i = 1; i < 5; i++) {
            star.filter(0, i, 0);
        }
        due.same("tables that are not linked", star.cost(31), 3 + 64);
        // s of 0-1 is -5 and with table 2 it is -2; with the two others it is 1 and 4.
        JoinOrderer x = Made.tables(0, 1, 3, 3, 3);
        x.filter(0, 1, 6);
        due.same("a pair with negative s", x.cost(31), 1 + 1 + 2 + 16);
    }

    private static void promise8LeastLinear() {
        due.by("Promise 8: The least cost of a linear plan of the set");
        JoinOrderer large = Made.tables(6, 6, 6, 6, 6);
        due.same("the greatest", large.linearCost(31), (1 << 30) + (1 << 24) + (1 << 18) + (1 << 12));
        due.same("the least", Made.tables(0, 0, 0, 0, 0).linearCost(31), 4);
        JoinOrderer x = new JoinOrderer();
        x.filter(0, 1, 6);
        x.filter(2, 3, 6);
        due.same("of three as any plan", x.linearCost(7), x.cost(7));
        due.same("of four dearer than two pairs", x.linearCost(15), 1 + 8 + 1);
        due.same("two pairs", x.cost(15), 1 + 1 + 1);
        due.same("not linked too", x.linearCost(20), 64);
    }

    private static void promise9LeastLinked() {
        due.by("Promise 9: The least cost of a linked plan of the set");
        due.same("the greatest", Made.allLinked(6, 0).linkedCost(31), (1 << 30) + (1 << 18) + 2 * (1 << 12));
        due.same("the least", Made.allLinked(0, 6).linkedCost(31), 4);
        due.same("one table", new JoinOrderer().linkedCost(16), 0);
        // 1 and 3 are small but only 2, a large one, links them.
        JoinOrderer x = Made.tables(3, 0, 6, 0, 3);
        x.filter(1, 2, 0);
        x.filter(2, 3, 0);
        due.same("dearer than a plan that is not linked", x.linkedCost(14), 64 + 64);
        due.same("the plan that is not linked", x.cost(14), 1 + 64);
    }

    private static void promise9NoneIfThereIsNone() {
        due.by("Promise 9: NONE if there is none");
        JoinOrderer bare = new JoinOrderer();
        JoinOrderer split = Made.chain(6);
        split.unfilter(1, 2);
        for (int set = 1; set <= 31; set++) {
            due.same("no filter, linkedCost(" + set + ")", bare.linkedCost(set), Integer.bitCount(set) == 1 ? 0 : NONE);
            due.same("0-1, 2-3-4, linkedCost(" + set + ") is none", split.linkedCost(set) == NONE, !split.connected(set));
            due.same("0-1, 2-3-4, linkedPlans(" + set + ") is 0", split.linkedPlans(set) == 0, !split.connected(set));
        }
        due.same("0-1, 2-3-4", split.linkedCost(31), NONE);
        due.same("0-1", split.linkedCost(3), 1);
        due.same("2-3-4", split.linkedCost(28), 1 + 1);
    }

    private static void promise10Greatest() {
        due.by("Promise 10: The greatest cost of a plan of the set");
        JoinOrderer large = Made.tables(6, 6, 6, 6, 6);
        due.same("the greatest", large.worst(31), (1 << 30) + (1 << 24) + (1 << 18) + (1 << 12));
        due.same("the least", Made.allLinked(0, 6).worst(31), 4);
        due.same("two tables", large.worst(17), 4096);
        JoinOrderer x = Made.tables(0, 0, 0, 0, 6);
        due.same("the large one first", x.worst(31), 4 * 64);
        // Between the pairs 0-1 and 2-3 all is filtered, within them nothing: two pairs are the worst.
        JoinOrderer y = Made.allLinked(6, 6);
        y.unfilter(0, 1);
        y.unfilter(2, 3);
        due.same("two pairs", y.worst(15), 4096 + 4096 + 1);
    }

    private static void promise11LeftSet() {
        due.by("Promise 11: NONE if the set has one table");
        JoinOrderer x = Made.tables(4, 3, 2, 1, 0);
        for (int i = 0; i < 5; i++) {
            due.same("left of one table", x.left(1 << i), NONE);
        }
        due.by("Promise 11: The left set, as a number, of the plan of the set with the least cost");
        due.same("two tables", x.left(3), 1);
        due.same("the two last", x.left(24), 8);
        due.same("1 and 2 are joined first", x.left(7), 1);
        // 32 + (2 + 32) + 1024 is less than 2 + 8 + 64 + 1024, one table at a time.
        due.same("1 and 2 against the rest", x.left(31), 6);
        due.same("3 and 4 are joined first", x.left(28), 4);
        x.filter(0, 1, 6);
        due.same("0 and 1 are joined first", x.left(7), 3);
        x.filter(2, 4, 6);
        due.same("2 and 4 are joined first", x.left(28), 8);
    }

    private static void promise11LeastNumber() {
        due.by("Promise 11: of several the one with the least such number");
        JoinOrderer all = Made.tables(0, 0, 0, 0, 0);
        for (int set = 1; set <= 31; set++) {
            int lowest = Integer.lowestOneBit(set);
            due.same("all plans alike, left(" + set + ")", all.left(set), set == lowest ? NONE : lowest);
        }
        JoinOrderer x = new JoinOrderer();
        due.same("three alike", x.left(28), 4);
        due.same("two pairs, three ways", x.left(15), 3);
        due.same("two pairs, three ways", x.left(30), 6);
        due.same("a pair and three, ten ways", x.left(31), 3);
        x.filter(2, 3, 1);
        due.same("2-3 one of the pairs", x.left(15), 3);
        due.same("2-3 in the three or the pair", x.left(31), 3);
        x.filter(2, 3, 0);
        x.filter(1, 3, 1);
        due.same("1-3 one of the pairs", x.left(15), 5);
    }

    private static void promise12AsInADictionary() {
        due.by("Promise 12: the one whose tables, from the left on, come first as in a dictionary");
        order("all orders alike", Made.tables(0, 0, 0, 0, 0), 31, 0, 1, 2, 3, 4);
        order("all alike, some tables", new JoinOrderer(), 22, 1, 2, 4);
        order("the large one last", Made.tables(6, 0, 0, 0, 0), 31, 1, 2, 3, 4, 0);
        order("the first two in either order", Made.tables(6, 5, 4, 3, 2), 31, 3, 4, 2, 1, 0);
        // 3-4 and 1-2 are as good as each other: 1 comes before 3, and then 2 has to come.
        JoinOrderer x = new JoinOrderer();
        x.filter(3, 4, 6);
        x.filter(1, 2, 6);
        order("two pairs alike", x, 30, 1, 2, 3, 4);
        // 0-4 is the strong pair, so they come first: 0, 4 before 4, 0, and the rest are alike.
        JoinOrderer y = new JoinOrderer();
        y.filter(4, 0, 6);
        order("a start with the last table", y, 31, 0, 4, 1, 2, 3);
        // After the start 1-2 the tables 0 and 3 are alike, but only 3 makes 4 small.
        JoinOrderer z = Made.tables(3, 3, 3, 3, 6);
        z.filter(1, 2, 6);
        z.filter(3, 4, 6);
        order("a later table leads on better", z, 31, 1, 2, 3, 4, 0);
    }

    private static void promise12FirstAndLast() {
        due.by("Promise 12: its k-th table (k = 0 is the first); NONE if there is none");
        JoinOrderer x = Made.tables(4, 3, 2, 1, 0);
        int[] wrong = {-1, -2, -5, 5, 6, 31, 32, Integer.MIN_VALUE, Integer.MIN_VALUE + 1, Integer.MAX_VALUE};
        for (int set : new int[] {1, 16, 3, 24, 7, 21, 15, 30, 31}) {
            int tables = Integer.bitCount(set);
            int met = 0;
            for (int k = 0; k < tables; k++) {
                met |= 1 << x.linearTable(set, k);
            }
            due.same("the tables of " + set, met, set);
            due.same("one past the last of " + set, x.linearTable(set, tables), NONE);
            for (int k : wrong) {
                due.same("linearTable(" + set + ", " + k + ")", x.linearTable(set, k), NONE);
            }
        }
        due.same("the first of all", x.linearTable(31, 0), 3);
        due.same("the last of all", x.linearTable(31, 4), 0);
    }

    private static void order(String what, JoinOrderer x, int set, int... tables) {
        for (int k = -1; k <= tables.length; k++) {
            int want = k >= 0 && k < tables.length ? tables[k] : NONE;
            due.same(what + ", linearTable(" + set + ", " + k + ")", x.linearTable(set, k), want);
        }
    }

    private static void promise13HowMany() {
        due.by("Promise 13: How many plans of the set there are");
        int[] byTables = {0, 1, 2, 12, 120, 1680};
        JoinOrderer bare = new JoinOrderer();
        JoinOrderer full = Made.allLinked(6, 6);
        for (int set = 1; set <= 31; set++) {
            int want = byTables[Integer.bitCount(set)];
            due.same("no filter, plans(" + set + ")", bare.plans(set), want);
            due.same("all filters, plans(" + set + ")", full.plans(set), want);
        }
    }

    private static void promise14HowManyLinked() {
        due.by("Promise 14: How many linked plans of the set there are");
        JoinOrderer bare = new JoinOrderer();
        JoinOrderer full = Made.allLinked(0, 0);
        for (int set = 1; set <= 31; set++) {
            boolean one = Integer.bitCount(set) == 1;
            due.same("no filter, linkedPlans(" + set + ")", bare.linkedPlans(set), one ? 1 : 0);
            due.same("all filters, linkedPlans(" + set + ")", full.linkedPlans(set), full.plans(set));
        }
        JoinOrderer chain = Made.chain(0);
        due.same("a chain", chain.linkedPlans(31), 224);
        due.same("a chain without its middle", chain.linkedPlans(27), 0);
        chain.filter(4, 0, 0);
        due.same("a ring", chain.linkedPlans(31), 560);
    }

    private static void promise15HowManyCheapest() {
        due.by("Promise 15: How many plans of the set have the least cost");
        JoinOrderer alike = Made.tables(0, 0, 0, 0, 0);
        JoinOrderer strong = Made.allLinked(0, 6);
        JoinOrderer one = Made.tables(0, 1, 2, 3, 4);
        for (int set = 1; set <= 31; set++) {
            due.same("every plan, cheapest(" + set + ")", alike.cheapest(set), alike.plans(set));
            due.same("every plan of size 1, cheapest(" + set + ")", strong.cheapest(set), strong.plans(set));
            due.same("one tree, cheapest(" + set + ")", one.cheapest(set), 1 << Integer.bitCount(set) - 1);
        }
        JoinOrderer x = new JoinOrderer();
        due.same("two pairs in three ways", x.cheapest(15), 3 * 8);
        due.same("a pair and three in thirty ways", x.cheapest(31), 30 * 16);
    }

    private static void promise16ByHowMuch() {
        due.by("Promise 16: By how much the least cost for the set of all five tables would become less");
        JoinOrderer large = Made.tables(6, 6, 6, 6, 6);
        // From 2^30 + 2^18 + 2 * 2^12 to (0-1), (2-3), (0-1)-4 and all: 2^6, 2^12, 2^12, 2^24.
        int most = (1 << 30) + (1 << 18) + 2 * (1 << 12) - (1 << 6) - 2 * (1 << 12) - (1 << 24);
        for (int i = 0; i < 5; i++) {
            for (int j = 0; j < 5; j++) {
                if (i != j) {
                    due.same("the greatest, gain(" + i + ", " + j + ")", large.gain(i, j), most);
                }
            }
        }
        JoinOrderer x = Made.tables(6, 0, 0, 0, 0);
        x.filter(0, 1, 5);
        due.same("5 to 6", x.gain(0, 1), 1);
        due.same("from 3 * 1 + 2 to 4 * 1", x.cost(31), 5);
    }

    private static void promise16NothingToGain() {
        due.by("Promise 16: as strong as 6, where the least cost can't become less");
        JoinOrderer x = Made.chain(6);
        for (int i = 0; i < 4; i++) {
            due.same("as strong already", x.gain(i, i + 1), 0);
            due.same("as strong already, the other way", x.gain(i + 1, i), 0);
        }
        JoinOrderer y = Made.tables(0, 0, 0, 0, 0);
        due.same("no table to make smaller", y.gain(0, 4), 0);
        due.same("the cost is 4 with all filters too", Made.allLinked(0, 6).gain(2, 3), 0);
    }

    private static void promise16ANewOne() {
        due.by("Promise 16: (or a new one of strength 6)");
        JoinOrderer bare = new JoinOrderer();
        JoinOrderer zero = Made.chain(0);
        due.same("no filter", bare.gain(3, 2), 33408 - 585);
        due.same("a filter of strength 0", zero.gain(3, 2), 33408 - 585);
        bare.filter(2, 3, 6);
        due.same("what it would cost", bare.cost(31), 585);
    }

    private static void promise16IsOnlyTried() {
        due.by("Promise 16: would become (nothing is changed)");
        for (int i = 0; i < 5; i++) {
            for (int j = 0; j < 5; j++) {
                if (i != j) {
                    JoinOrderer x = new JoinOrderer();
                    x.gain(i, j);
                    due.same("no strength", x.size(31), 1 << 15);
                    due.same("the same cost", x.cost(31), 33408);
                    due.same("no link", x.connected(Made.pair(i, j)), false);
                    due.same("no filter", x.unfilter(i, j), NONE);
                    x.filter(i, j, 2);
                    x.gain(j, i);
                    due.same("the strength stays", x.size(31), 1 << 13);
                    due.same("there is a filter still", x.filter(i, j, 2), 1);
                    due.same("of the same strength", x.unfilter(j, i), 2);
                }
            }
        }
    }
}
