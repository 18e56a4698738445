/** Objects in states that several tests start from, and the arguments that are out of range. */
final class Made {
    static final int BAD_ARG = -1;
    static final int NONE = -4;
    static final int[] WRONG_TABLES = {-1, 5, 6, -5, 32, Integer.MIN_VALUE, Integer.MAX_VALUE};
    static final int[] WRONG_EXPONENTS = {-1, 7, 8, -6, 32, Integer.MIN_VALUE, Integer.MAX_VALUE};

    /** Some of them have a right set in their lowest five bits, which must not be taken for the set. */
    static final int[] WRONG_SETS = {0, -1, -2, -29, -31, -32, 32, 33, 35, 63, 64, 256 + 7, 1 << 30,
            Integer.MIN_VALUE, Integer.MIN_VALUE + 3, Integer.MAX_VALUE};

    private Made() { }

    static JoinOrderer tables(int... exponents) {
        JoinOrderer x = new JoinOrderer();
        for (int i = 0; i < exponents.length; i++) {
            x.table(i, exponents[i]);
        }
        return x;
    }

    /** Filters 0-1, 1-2, 2-3, 3-4, all of one strength. */
    static JoinOrderer chain(int strength) {
        JoinOrderer x = new JoinOrderer();
        for (int i = 0; i < 4; i++) {
            x.filter(i, i + 1, strength);
        }
        return x;
    }

    /** All tables of one exponent, and a filter of one strength between every two. */
    static JoinOrderer allLinked(int exponent, int strength) {
        JoinOrderer x = tables(exponent, exponent, exponent, exponent, exponent);
        for (int i = 0; i < 5; i++) {
            for (int j = 0; j < i; j++) {
                x.filter(i, j, strength);
            }
        }
        return x;
    }

    static int pair(int i, int j) {
        return 1 << i | 1 << j;
    }
}
