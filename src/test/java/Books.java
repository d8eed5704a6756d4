/** Pieces of which tests make objects; numbers that are far from all that the document names. */
final class Books {
    static final int NONE = -1, BAD = -2, STATE = -3, FULL = -4, GREAT = -7, NO_WAY = -8;
    static final int MISSING = -11, OUTSIDE = -12, OTHER_SORT = -13, BELOW_NOTHING = -14;
    static final long NO = Long.MIN_VALUE;
    static final int PLAIN = 0, STRIP = 1, STEPPED = 2, SINKER = 3, LINKED = 4, CALLED = 5;
    static final int BYTES = 0, INTS = 1;
    static final int LEAST_INT = Integer.MIN_VALUE, GREATEST_INT = Integer.MAX_VALUE;
    static final int[] FAR = {LEAST_INT, LEAST_INT + 1, -1_000_000, 1_000_000, GREATEST_INT - 1, GREATEST_INT};

    private Books() {
    }

    /** What is outside low .. high: just so, and far away. */
    static int[] outside(int low, int high) {
        int[] all = java.util.Arrays.copyOf(FAR, FAR.length + 2);
        all[FAR.length] = low - 1;
        all[FAR.length + 1] = high + 1;
        return all;
    }

    /** Pays on one day alone, if the day is not above 30. */
    static int strip(DuesOnRungs x, int price, int day, int pay) {
        return x.bond(STRIP, price, 0, 30, day, pay);
    }

    static void sheet(DuesOnRungs x, int sheet, int sort, int... numbers) {
        x.sheet(sheet, sort, numbers.length);
        for (int i = 0; i < numbers.length; i++) {
            x.put(sheet, i, numbers[i]);
        }
    }

    /** Dues one behind the other: a day, what is due on it, and so on. */
    static DuesOnRungs dues(int... pairs) {
        DuesOnRungs x = new DuesOnRungs();
        for (int k = 0; k < pairs.length; k += 2) {
            x.due(pairs[k], pairs[k + 1]);
        }
        return x;
    }
}
