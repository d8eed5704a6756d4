/** What the document says at the edges of promises 30 to 33; a check for each such word. */
public final class BoundsOfSheetsTest {
    private static final Checks CHECKS = new Checks("BoundsOfSheetsTest");

    private static void due(String what, long got, long want) {
        CHECKS.due(what, got, want);
    }

    public static void main(String[] args) {
        sheetBounds();
        sheetSizes();
        sheetAnew();
        putBounds();
        putBits();
        copyBounds();
        copyPlaces();
        copyNothing();
        copyAsTheyWere();
        loadBounds();
        loadPlaces();
        loadNothing();
        loadLeftOut();
        loadAhead();
        CHECKS.end();
    }

    private static void sheetBounds() {
        DuesOnRungs x = new DuesOnRungs();
        for (int sheet : Books.outside(0, 3)) {
            due("30: BAD: no such SHEET " + sheet, x.sheet(sheet, Books.INTS, 1), Books.BAD);
            due("30: BAD: no such SHEET " + sheet + " to be missing", x.sheet(sheet, -1, 1), Books.BAD);
            due("30: BAD ahead of -14: SHEET " + sheet, x.sheet(sheet, Books.INTS, -1), Books.BAD);
        }
        for (int sort : Books.outside(-1, 1)) {
            due("30: BAD: no such sort " + sort, x.sheet(0, sort, 1), Books.BAD);
            due("30: BAD ahead of -14: sort " + sort, x.sheet(0, sort, -1), Books.BAD);
            due("30: BAD changes nothing", x.put(0, 0, 1), Books.MISSING);
        }
    }

    private static void sheetSizes() {
        for (int sort = Books.BYTES; sort <= Books.INTS; sort++) {
            DuesOnRungs x = new DuesOnRungs();
            due("30: BAD: n above 40: 41", x.sheet(0, sort, 41), Books.BAD);
            due("30: BAD: n above 40: the greatest int", x.sheet(0, sort, Books.GREATEST_INT), Books.BAD);
            due("30: -14: n -1", x.sheet(0, sort, -1), Books.BELOW_NOTHING);
            due("30: -14: n the least int", x.sheet(0, sort, Books.LEAST_INT), Books.BELOW_NOTHING);
            due("30: refused, it is missing as ever", x.put(0, 0, 1), Books.MISSING);
            due("30: n 40", x.sheet(0, sort, 40), 1);
            due("30: n 40: the last item", x.put(0, 39, 1), 1);
            due("30: refused: 41", x.sheet(0, sort, 41), Books.BAD);
            due("30: refused: -1", x.sheet(0, sort, -1), Books.BELOW_NOTHING);
            due("30: refused, it has 40 as ever", x.put(0, 39, 1), 1);
            due("30: n 0", x.sheet(0, sort, 0), 1);
            due("30: n 0: no items, but not missing", x.put(0, 0, 1), Books.OUTSIDE);
            due("30: n 1", x.sheet(0, sort, 1), 1);
            due("30: n 1: the first item", x.put(0, 0, 1), 1);
            due("30: n 1: no second", x.put(0, 1, 1), Books.OUTSIDE);
            for (int n : new int[] {0, 1, -1, 40, 41, Books.GREATEST_INT, Books.LEAST_INT}) {
                x.sheet(0, sort, 1);
                due("30: missing: n does not matter: " + n, x.sheet(0, -1, n), 1);
                due("30: missing", x.put(0, 0, 1), Books.MISSING);
            }
            due("30: missing one becomes missing", x.sheet(0, -1, 0), 1);
        }
    }

    private static void sheetAnew() {
        DuesOnRungs x = new DuesOnRungs();
        for (int i = 0; i < 4; i++) {
            due("30: SHEET " + i, x.sheet(i, i % 2, 5), 1);
        }
        Books.sheet(x, 0, Books.INTS, 5, 6, 7, 8, 9);
        x.sheet(0, Books.INTS, 5);
        due("30: all 0, not what was ahead: CASH of no RUNGS is otherwise from 0 on", x.tells(0, 0, 0), 0);
        for (int day = 1; day <= 5; day++) {
            x.due(day, 1);
        }
        due("30: all 0: five times CASH 0", x.tells(0, 0, 0), Books.NONE);
        Books.sheet(x, 0, Books.INTS, 5, 6, 7, 8, 9);
        x.sheet(0, -1, 0);
        x.sheet(0, Books.BYTES, 5);
        due("30: all 0 behind missing", x.tells(0, 0, 0), Books.NONE);
        Books.sheet(x, 0, Books.BYTES, 5, 6, 7, 8, 9);
        x.sheet(0, Books.BYTES, 2);
        x.sheet(0, Books.BYTES, 5);
        due("30: all 0 behind a smaller one", x.tells(0, 0, 0), Books.NONE);
    }

    private static void putBounds() {
        DuesOnRungs x = new DuesOnRungs();
        for (int sheet : Books.outside(0, 3)) {
            due("31: BAD: no such SHEET " + sheet, x.put(sheet, 0, 0), Books.BAD);
            due("31: BAD ahead of -12: SHEET " + sheet, x.put(sheet, -1, 0), Books.BAD);
        }
        for (int sheet = 0; sheet < 4; sheet++) {
            due("31: -11: SHEET " + sheet, x.put(sheet, 0, 0), Books.MISSING);
            due("31: -11 ahead of -12: SHEET " + sheet, x.put(sheet, -1, 0), Books.MISSING);
        }
        x.sheet(0, Books.INTS, 3);
        x.sheet(1, Books.BYTES, 3);
        for (int i : Books.outside(0, 2)) {
            due("31: -12: item " + i + " of ints", x.put(0, i, 0), Books.OUTSIDE);
            due("31: -12: item " + i + " of bytes", x.put(1, i, 0), Books.OUTSIDE);
        }
        for (int v : Books.FAR) {
            due("31: v " + v + " of ints", x.put(0, 2, v), 1);
            due("31: v " + v + " of bytes", x.put(1, 2, v), 1);
        }
    }

    /** Day 7 and number 9 by their lowest 8 bits. */
    private static void putBits() {
        for (int turn : new int[] {256, -256, 65536, Books.LEAST_INT, Books.GREATEST_INT - 255}) {
            DuesOnRungs x = new DuesOnRungs();
            Books.sheet(x, 0, Books.BYTES, turn + 7, turn + 9);
            due("31: of bytes the lowest 8 bits, " + turn, x.load(0, Books.BYTES, 0, 1), 1);
            due("31: they are the DAY and the DUE, " + turn, x.due(7, 0), 9);
            Books.sheet(x, 1, Books.INTS, turn + 7, 9);
            due("31: of ints all bits: no such DAY, " + turn, x.load(1, Books.INTS, 0, 1), 0);
            Books.sheet(x, 1, Books.INTS, 7, turn + 9);
            due("31: of ints all bits: no such DUE, " + turn, x.load(1, Books.INTS, 0, 1), 0);
        }
        DuesOnRungs y = new DuesOnRungs();
        Books.sheet(y, 0, Books.BYTES, 7, 255, 8, 128);
        due("31: 255 and 128 are no DUES, nor what Java's bytes are", y.load(0, Books.BYTES, 0, 2), 0);
    }

    private static void copyBounds() {
        DuesOnRungs x = new DuesOnRungs();
        x.sheet(0, Books.INTS, 5);
        x.sheet(1, Books.BYTES, 5);
        for (int sheet : Books.outside(0, 3)) {
            due("32: BAD: no such SHEET " + sheet, x.copy(sheet, 0, 0, 0, 1), Books.BAD);
            due("32: BAD: no such other one " + sheet, x.copy(0, 0, sheet, 0, 1), Books.BAD);
            due("32: BAD ahead of -11: " + sheet, x.copy(2, 0, sheet, 0, 1), Books.BAD);
            due("32: BAD ahead of -12: " + sheet, x.copy(0, -1, sheet, -1, -1), Books.BAD);
        }
        due("32: -11: the first is missing", x.copy(2, 0, 0, 0, 1), Books.MISSING);
        due("32: -11: the other is missing", x.copy(0, 0, 2, 0, 1), Books.MISSING);
        due("32: -11: both are missing", x.copy(2, 0, 3, 0, 1), Books.MISSING);
        due("32: -11: one and the same is missing", x.copy(2, 0, 2, 0, 0), Books.MISSING);
        due("32: -11 ahead of -12", x.copy(2, 9, 0, 9, -1), Books.MISSING);
        due("32: -13: ints to bytes", x.copy(0, 0, 1, 0, 1), Books.OTHER_SORT);
        due("32: -13: bytes to ints", x.copy(1, 0, 0, 0, 1), Books.OTHER_SORT);
        due("32: -13: of none of them too", x.copy(0, 0, 1, 0, 0), Books.OTHER_SORT);
        due("32: -13 ahead of -12", x.copy(0, -1, 1, 9, -1), Books.OTHER_SORT);
    }

    private static void copyPlaces() {
        DuesOnRungs x = new DuesOnRungs();
        x.sheet(0, Books.INTS, 5);
        x.sheet(1, Books.INTS, 3);
        int[][] places = {
            {0, 0, 3}, {2, 0, 3}, {4, 2, 1}, {0, 2, 1}, {0, 0, 0},
            {3, 0, 3}, {0, 1, 3}, {0, 0, 4}, {5, 0, 1}, {0, 3, 1}, {-1, 0, 1}, {0, -1, 1}, {0, 0, -1}, {5, 3, -1},
        };
        for (int k = 0; k < places.length; k++) {
            int[] p = places[k];
            due("32: from " + p[0] + " to " + p[1] + ", " + p[2], x.copy(0, p[0], 1, p[1], p[2]),
                k < 5 ? p[2] : Books.OUTSIDE);
        }
        for (int far : Books.FAR) {
            due("32: -12: i " + far, x.copy(0, far, 1, 0, 1), Books.OUTSIDE);
            due("32: -12: j " + far, x.copy(0, 0, 1, far, 1), Books.OUTSIDE);
            due("32: -12: n " + far, x.copy(0, 0, 1, 0, far), Books.OUTSIDE);
            due("32: -12: i and n wrap round " + far, x.copy(0, far, 0, 0, far), Books.OUTSIDE);
            due("32: -12: j and n wrap round " + far, x.copy(0, 0, 0, far, far), Books.OUTSIDE);
            due("32: -12: 1 and n wrap round " + far, x.copy(0, 1, 1, 1, far), Books.OUTSIDE);
        }
    }

    private static void copyNothing() {
        DuesOnRungs x = new DuesOnRungs();
        x.sheet(0, Books.INTS, 5);
        x.sheet(1, Books.INTS, 0);
        due("32: none, behind the last items", x.copy(0, 5, 1, 0, 0), 0);
        due("32: -12: none, one further", x.copy(0, 6, 1, 0, 0), Books.OUTSIDE);
        due("32: -12: none, to one further", x.copy(0, 5, 1, 1, 0), Books.OUTSIDE);
        due("32: -12: none, ahead of the first", x.copy(0, -1, 1, 0, 0), Books.OUTSIDE);
        due("32: -12: none, to one ahead of the first", x.copy(0, 0, 1, -1, 0), Books.OUTSIDE);
        due("32: -12: one of no items", x.copy(1, 0, 0, 0, 1), Books.OUTSIDE);
    }

    /** Each item is read back as the DAY of a DUE 1. */
    private static void copyAsTheyWere() {
        int[][] calls = {{0, 1, 4}, {1, 0, 4}, {0, 0, 5}, {0, 2, 3}, {2, 0, 3}, {1, 3, 2}, {4, 0, 1}, {0, 4, 1}};
        int[] days = {11, 12, 13, 14, 15};
        for (int sort = Books.BYTES; sort <= Books.INTS; sort++) {
            for (int[] call : calls) {
                DuesOnRungs x = new DuesOnRungs();
                Books.sheet(x, 0, sort, days);
                int[] want = days.clone();
                for (int k = 0; k < call[2]; k++) {
                    want[call[1] + k] = days[call[0] + k];
                }
                due("32: over itself, how many", x.copy(0, call[0], 0, call[1], call[2]), call[2]);
                for (int i = 0; i < 5; i++) {
                    x.sheet(1, sort, 2);
                    x.copy(0, i, 1, 0, 1);
                    x.put(1, 1, 1);
                    x.load(1, sort, 0, 1);
                    due("32: as they were: from " + call[0] + " to " + call[1] + ", item " + i, x.due(want[i], 0), 1);
                }
            }
        }
        DuesOnRungs y = new DuesOnRungs();
        Books.sheet(y, 0, Books.INTS, 1, 2);
        Books.sheet(y, 1, Books.INTS, 3, 4);
        due("32: -12 changes nothing, though one would go", y.copy(0, 1, 1, 0, 2), Books.OUTSIDE);
        y.load(1, Books.INTS, 0, 1);
        due("32: the other one is as it was", y.due(3, 0), 4);
    }

    private static void loadBounds() {
        DuesOnRungs x = new DuesOnRungs();
        Books.sheet(x, 0, Books.INTS, 1, 11, 2, 12, 3, 13, 4, 14, 5, 15, 6, 16);
        for (int sheet : Books.outside(0, 3)) {
            due("33: BAD: no such SHEET " + sheet, x.load(sheet, Books.INTS, 0, 1), Books.BAD);
        }
        for (int sort : Books.outside(0, 1)) {
            due("33: BAD: no such sort " + sort, x.load(0, sort, 0, 1), Books.BAD);
            due("33: BAD ahead of -11: sort " + sort, x.load(1, sort, 0, 1), Books.BAD);
        }
        for (int n : Books.outside(0, 5)) {
            due("33: BAD: n " + n, x.load(0, Books.INTS, 0, n), Books.BAD);
            due("33: BAD ahead of -13: n " + n, x.load(0, Books.BYTES, 0, n), Books.BAD);
            due("33: BAD ahead of -11: n " + n, x.load(1, Books.INTS, 0, n), Books.BAD);
            due("33: BAD ahead of -12: n " + n, x.load(0, Books.INTS, -1, n), Books.BAD);
        }
        due("33: refused, nothing came", x.count(0), 0);
        due("33: -13: ints taken for bytes", x.load(0, Books.BYTES, 0, 1), Books.OTHER_SORT);
        due("33: -13 ahead of -12", x.load(0, Books.BYTES, -1, 1), Books.OTHER_SORT);
        due("33: -13, nothing came", x.count(0), 0);
        x.sheet(2, Books.BYTES, 2);
        due("33: -13: bytes taken for ints", x.load(2, Books.INTS, 0, 1), Books.OTHER_SORT);
        for (int sort = Books.BYTES; sort <= Books.INTS; sort++) {
            due("33: -11: a missing one is of no other sort, " + sort, x.load(1, sort, 0, 1), Books.MISSING);
            due("33: -11 ahead of -12, sort " + sort, x.load(1, sort, -1, 1), Books.MISSING);
        }
        due("33: n 5", x.load(0, Books.INTS, 0, 5), 5);
    }

    private static void loadPlaces() {
        DuesOnRungs x = new DuesOnRungs();
        Books.sheet(x, 0, Books.INTS, 1, 11, 2, 12);
        for (int from : Books.outside(0, 3)) {
            due("33: -12: from " + from, x.load(0, Books.INTS, from, 1), Books.OUTSIDE);
        }
        due("33: -12: from the last item on: no number", x.load(0, Books.INTS, 3, 1), Books.OUTSIDE);
        due("33: nothing came", x.count(0), 0);
        due("33: from the last but one on", x.load(0, Books.INTS, 2, 1), 1);
        due("33: it came", x.due(2, 0), 12);
        Books.sheet(x, 1, Books.BYTES, 60, 1, 99);
        due("33: from an odd item on: DAY 1, number 99", x.load(1, Books.BYTES, 1, 1), 1);
        due("33: it came", x.due(1, 0), 99);
        x.sheet(2, Books.INTS, 40);
        x.put(2, 38, 9);
        x.put(2, 39, 90);
        due("33: the last two of 40", x.load(2, Books.INTS, 38, 1), 1);
        due("33: it came", x.due(9, 0), 90);
        due("33: -12: behind the last two of 40", x.load(2, Books.INTS, 38, 2), Books.OUTSIDE);
    }

    private static void loadNothing() {
        DuesOnRungs x = new DuesOnRungs();
        x.sheet(0, Books.INTS, 0);
        due("33: n 0: none came", x.load(0, Books.INTS, 0, 0), 0);
        due("33: -12: one of no items", x.load(0, Books.INTS, 0, 1), Books.OUTSIDE);
        due("33: n 0 of another sort: -13", x.load(0, Books.BYTES, 0, 0), Books.OTHER_SORT);
    }

    private static void loadLeftOut() {
        DuesOnRungs x = new DuesOnRungs();
        Books.sheet(x, 0, Books.INTS, 0, 5, 61, 5, 1, 100, 1, -1, 60, 99);
        due("33: DAYS and numbers that are BAD are left out", x.load(0, Books.INTS, 0, 5), 1);
        due("33: the others came", x.due(60, 0), 99);
        Books.sheet(x, 1, Books.INTS, 1, 1, 2, 2, 3, 3, 4, 4);
        due("33: four came", x.load(1, Books.INTS, 0, 4), 4);
        Books.sheet(x, 2, Books.INTS, 5, 5, 6, 6, 1, 9, 2, 0, 6, 7);
        due("33: the one that is FULL is left out", x.load(2, Books.INTS, 0, 5), 4);
        due("33: another number of one of five", x.rung(0, 1), 9);
        due("33: by number 0 a DUE goes", x.rung(1, 0), 3);
        due("33: so that another may come", x.rung(4, 1), 7);
    }

    private static void loadAhead() {
        for (int n = 3; n <= 5; n++) {
            DuesOnRungs x = new DuesOnRungs();
            Books.sheet(x, 0, Books.BYTES, 1, 11, 2, 12, 3);
            due("33: -12: no number of the third, n " + n, x.load(0, Books.BYTES, 0, n), Books.OUTSIDE);
            due("33: what stood ahead came", x.count(0), 2);
            due("33: the first", x.rung(0, 1), 11);
            due("33: the second", x.rung(1, 1), 12);
        }
    }
}
