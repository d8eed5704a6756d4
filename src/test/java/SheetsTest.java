/** Promises 30 to 33: sheet, put, copy, load. */
public final class SheetsTest {
    private static final Checks CHECKS = new Checks("SheetsTest");
    private static final int MISSING = -1, BYTES = 0, INTS = 1;
    private static final int GREATEST = Integer.MAX_VALUE, LEAST = Integer.MIN_VALUE;

    private static void due(String what, long got, long want) {
        CHECKS.due(what, got, want);
    }

    private static void fill(DuesOnRungs x, int sheet, int sort, int... numbers) {
        x.sheet(sheet, sort, numbers.length);
        for (int i = 0; i < numbers.length; i++) {
            x.put(sheet, i, numbers[i]);
        }
    }

    /** Whether items 0 and 1, 2 and 3, .. of a sheet are these: they are days and dues of a new object. */
    private static void items(String what, int sort, int[] calls, int... want) {
        DuesOnRungs x = new DuesOnRungs();
        fill(x, 0, sort, 1, 11, 2, 12, 3, 13, 4, 14, 5, 15);
        due(what + ": how many came", x.copy(0, calls[0], 0, calls[1], calls[2]), calls[2]);
        x.load(0, sort, 0, 5);
        for (int k = 0; k < want.length; k += 2) {
            due(what + ": day " + want[k], x.due(want[k], 0), want[k + 1]);
        }
        due(what + ": no more", x.count(0), 0);
    }

    public static void main(String[] args) {
        sheets();
        puts();
        copies();
        copiesRefused();
        loads();
        loadsRefused();
        CHECKS.end();
    }

    private static void sheets() {
        DuesOnRungs x = new DuesOnRungs();
        for (int sheet : new int[] {-1, 4, LEAST, GREATEST}) {
            due("30: sheet " + sheet, x.sheet(sheet, INTS, 1), DuesOnRungs.BAD);
        }
        due("30: sort -2", x.sheet(0, -2, 1), DuesOnRungs.BAD);
        due("30: sort 2", x.sheet(0, 2, -1), DuesOnRungs.BAD);
        due("30: n 41", x.sheet(0, INTS, 41), DuesOnRungs.BAD);
        due("30: n -1", x.sheet(0, INTS, -1), -14);
        due("30: n least", x.sheet(0, BYTES, LEAST), -14);
        due("30: refusals change nothing", x.put(0, 0, 1), -11);
        due("30: n 40", x.sheet(0, BYTES, 40), 1);
        due("30: item 39", x.put(0, 39, 1), 1);
        due("30: item 40", x.put(0, 40, 1), -12);
        due("30: n 0", x.sheet(1, INTS, 0), 1);
        due("30: item 0", x.put(1, 0, 1), -12);
        due("30: refused, it stays", x.sheet(0, BYTES, 41), DuesOnRungs.BAD);
        due("30: item 39 still", x.put(0, 39, 1), 1);
        due("30: missing, n does not matter", x.sheet(0, MISSING, 99), 1);
        due("30: missing", x.put(0, 39, 1), -11);
        due("30: missing again, below 0", x.sheet(0, MISSING, -9), 1);
        // All 0: the number of a day 1 is put, and nothing is left of the 9 behind it.
        fill(x, 2, INTS, 1, 9);
        x.sheet(2, INTS, 2);
        x.put(2, 0, 1);
        x.due(1, 5);
        due("30: all 0", x.load(2, INTS, 0, 1), 1);
        due("30: its due was taken", x.count(0), 0);
    }

    private static void puts() {
        DuesOnRungs x = new DuesOnRungs();
        due("31: no such sheet", x.put(-1, 0, 1), DuesOnRungs.BAD);
        due("31: no such sheet", x.put(4, 0, 1), DuesOnRungs.BAD);
        due("31: missing", x.put(3, -1, 1), -11);
        x.sheet(3, BYTES, 2);
        due("31: item -1", x.put(3, -1, 1), -12);
        due("31: item 2", x.put(3, 2, 1), -12);
        due("31: item greatest", x.put(3, GREATEST, 1), -12);
        x.put(3, 0, 256 + 7);
        x.put(3, 1, -256 + 9);
        due("31: lowest 8 bits are a day and a due", x.load(3, BYTES, 0, 1), 1);
        due("31: of that due", x.due(7, 0), 9);
        fill(x, 3, INTS, 256 + 7, 9);
        due("31: an int is kept whole", x.load(3, INTS, 0, 1), 0);
    }

    private static void copies() {
        for (int sort = BYTES; sort <= INTS; sort++) {
            items("32: nothing", sort, new int[] {10, 10, 0}, 1, 11, 2, 12, 3, 13, 4, 14, 5, 15);
            items("32: apart", sort, new int[] {1, 9, 1}, 1, 11, 2, 12, 3, 13, 4, 14, 5, 11);
            items("32: upwards over itself, as they were", sort, new int[] {0, 2, 6}, 1, 11, 2, 12, 3, 13, 5, 15);
            items("32: downwards over itself, as they were", sort, new int[] {4, 2, 6}, 1, 11, 3, 13, 4, 14, 5, 15);
            items("32: onto itself", sort, new int[] {0, 0, 10}, 1, 11, 2, 12, 3, 13, 4, 14, 5, 15);
        }
        DuesOnRungs x = new DuesOnRungs();
        fill(x, 0, INTS, 8, 80, 9, 90);
        x.sheet(3, INTS, 40);
        due("32: to another", x.copy(0, 2, 3, 38, 2), 2);
        due("32: there", x.load(3, INTS, 38, 1), 1);
        due("32: of that due", x.due(9, 0), 90);
        due("32: the first stays", x.load(0, INTS, 2, 1), 1);
    }

    private static void copiesRefused() {
        DuesOnRungs x = new DuesOnRungs();
        x.sheet(0, INTS, 5);
        x.sheet(1, INTS, 3);
        x.sheet(2, BYTES, 5);
        int[][] want = {
            {-1, 0, 0, 0, 1, -2}, {4, 0, 0, 0, 1, -2}, {0, 0, -1, 0, 1, -2}, {0, 0, 4, 0, 1, -2}, {3, 0, 4, 0, 1, -2},
            {3, 0, 0, 0, 1, -11}, {0, 0, 3, 0, 1, -11}, {3, 0, 3, 0, -1, -11},
            {0, 0, 2, 0, 1, -13}, {2, 9, 0, 9, -1, -13}, {0, 0, 2, 0, 0, -13},
            {0, 0, 1, 0, -1, -12}, {0, -1, 1, 0, 1, -12}, {0, 0, 1, -1, 1, -12}, {0, 0, 1, 0, 4, -12},
            {0, 3, 1, 0, 3, -12}, {0, 0, 1, 2, 2, -12}, {0, 6, 1, 0, 0, -12}, {0, 0, 1, 4, 0, -12},
            {0, 1, 1, 0, GREATEST, -12}, {0, GREATEST, 1, 0, 1, -12}, {0, 0, 1, GREATEST, 1, -12},
            {0, LEAST, 1, 0, LEAST, -12}, {0, 5, 1, 3, 0, 0}, {0, 2, 1, 0, 3, 3},
        };
        for (int[] w : want) {
            due("32: " + java.util.Arrays.toString(w), x.copy(w[0], w[1], w[2], w[3], w[4]), w[5]);
        }
    }

    private static void loads() {
        DuesOnRungs x = new DuesOnRungs();
        fill(x, 0, BYTES, 99, 10, 5, 61, 5, 12, 6, 10, 0, 13, 100);
        due("33: five, of which 61 and 100 are left out", x.load(0, BYTES, 1, 5), 3);
        due("33: that of day 10 was taken again", x.count(0), 1);
        due("33: day 12", x.due(12, 0), 6);
        fill(x, 1, INTS, 1, 1, 2, 2, 3, 3, 4, 4, 5, 5);
        due("33: five", x.load(1, INTS, 0, 5), 5);
        fill(x, 2, INTS, 6, 6, 5, 9);
        due("33: a sixth is left out, another of the fifth is not", x.load(2, INTS, 0, 2), 1);
        due("33: day 5", x.due(5, 9), 9);
        due("33: none", x.load(2, INTS, 0, 0), 0);
        due("33: none, wherever from", x.load(2, INTS, GREATEST, 0), 0);
    }

    private static void loadsRefused() {
        DuesOnRungs x = new DuesOnRungs();
        fill(x, 0, INTS, 1, 11, 2, 12, 3);
        for (int sheet : new int[] {-1, 4}) {
            due("33: sheet " + sheet, x.load(sheet, INTS, 0, 1), DuesOnRungs.BAD);
        }
        due("33: sort -1", x.load(0, -1, 0, 1), DuesOnRungs.BAD);
        due("33: sort 2", x.load(0, 2, 0, 1), DuesOnRungs.BAD);
        due("33: n -1", x.load(0, BYTES, 0, -1), DuesOnRungs.BAD);
        due("33: n 6", x.load(1, INTS, 0, 6), DuesOnRungs.BAD);
        due("33: of another sort", x.load(0, BYTES, -1, 1), -13);
        due("33: missing", x.load(1, BYTES, -1, 1), -11);
        for (int from : new int[] {-1, 4, 5, LEAST, GREATEST - 1, GREATEST}) {
            due("33: from " + from, x.load(0, INTS, from, 1), -12);
        }
        due("33: nothing came", x.count(0), 0);
        due("33: the third has no number", x.load(0, INTS, 0, 3), -12);
        due("33: what stood ahead came", x.count(0), 2);
        due("33: day 1", x.due(1, 0), 11);
        due("33: day 2", x.due(2, 0), 12);
    }
}
