/** Promises 14 to 16: worth, length, surplus. */
public final class WorthsTest {
    private static final Checks CHECKS = new Checks("WorthsTest");
    private static final int DUES = -1, HELD = -2;

    private static void due(String what, long got, long want) {
        CHECKS.due(what, got, want);
    }

    private static void worth(DuesOnRungs x, int row, long above, long below) {
        due("14: worth of " + row + ", above", x.worth(row, 0), above);
        due("14: worth of " + row + ", below", x.worth(row, 1), below);
    }

    private static void length(DuesOnRungs x, int row, int what, long above, long below) {
        due("15: " + what + " of " + row + ", above", x.length(row, what, 0), above);
        due("15: " + what + " of " + row + ", below", x.length(row, what, 1), below);
    }

    private static void surplus(DuesOnRungs x, long above, long below) {
        due("16: above", x.surplus(0), above);
        due("16: below", x.surplus(1), below);
    }

    public static void main(String[] args) {
        nothing();
        rateless();
        rated();
        great();
        wrong();
        CHECKS.end();
    }

    private static void nothing() {
        DuesOnRungs x = new DuesOnRungs();
        worth(x, DUES, 0, 1);
        worth(x, HELD, 0, 1);
        surplus(x, 0, 1);
        length(x, DUES, 0, DuesOnRungs.NO, DuesOnRungs.NO);
        length(x, HELD, 1, DuesOnRungs.NO, DuesOnRungs.NO);
    }

    /** Factors 1: 10 and 20; length 50/30; spread (4/9 * 10 + 1/9 * 20) / 30. */
    private static void rateless() {
        DuesOnRungs x = new DuesOnRungs();
        x.due(10, 10);
        x.due(20, 20);
        worth(x, DUES, 30, 1);
        length(x, DUES, 0, 5, 3);
        length(x, DUES, 1, 2, 9);
    }

    /** Factors 5/4: 8 and 64/5; length (168/5) / (104/5); D -8/13 and 5/13. */
    private static void rated() {
        DuesOnRungs x = new DuesOnRungs();
        x.due(10, 10);
        x.due(20, 20);
        x.rate(1, 1);
        x.bond(0, 1, 0, 30, 10, 25);
        x.bond(0, 1, 5, 10, 20, 20);
        worth(x, DUES, 104, 5);
        length(x, DUES, 0, 21, 13);
        length(x, DUES, 1, 40, 169);
        worth(x, 0, 20, 1);
        length(x, 0, 0, 1, 1);
        length(x, 0, 1, 0, 1);
        // 5 * 4/5 and 25 * 16/25.
        worth(x, 1, 20, 1);
        length(x, 1, 0, 9, 5);
        worth(x, HELD, 0, 1);
        surplus(x, -104, 5);
        x.hold(0, 1);
        surplus(x, -4, 5);
        x.hold(1, 2);
        worth(x, HELD, 60, 1);
        surplus(x, 196, 5);
        x.rate(11, 0);
        // The second factor is 1 now: 8 and 16.
        worth(x, DUES, 24, 1);
        DuesOnRungs y = new DuesOnRungs();
        y.due(10, 1);
        y.bond(1, 1, 0, 30, 20, 1);
        length(y, DUES, 0, 1, 1);
        length(y, DUES, 1, 0, 1);
        worth(y, 0, 0, 1);
        length(y, 0, 0, DuesOnRungs.NO, DuesOnRungs.NO);
        length(y, 0, 1, DuesOnRungs.NO, DuesOnRungs.NO);
    }

    /** Many small factors: the spread's products go beyond a long, the length's don't. */
    private static void great() {
        DuesOnRungs x = new DuesOnRungs();
        int[] days = {5, 9, 20, 31, 59};
        int[] dues = {99, 97, 89, 83, 71};
        int[] rates = {3, 1, 2, 3, 1};
        for (int i = 0; i < 5; i++) {
            x.due(days[i], dues[i]);
            x.rate(i == 0 ? 1 : days[i - 1] + 1, rates[i]);
        }
        length(x, DUES, 0, 306775, 140003);
        length(x, DUES, 1, DuesOnRungs.NO, DuesOnRungs.NO);
    }

    private static void wrong() {
        DuesOnRungs x = new DuesOnRungs();
        x.due(10, 10);
        x.bond(0, 1, 0, 30, 10, 25);
        int[] rows = {-3, 1, Integer.MIN_VALUE, Integer.MAX_VALUE};
        for (int row : rows) {
            due("14: row " + row, x.worth(row, 0), DuesOnRungs.NO);
            due("15: row " + row, x.length(row, 0, 0), DuesOnRungs.NO);
        }
        for (int other : new int[] {-1, 2}) {
            due("14: part " + other, x.worth(0, other), DuesOnRungs.NO);
            due("15: part " + other, x.length(0, 0, other), DuesOnRungs.NO);
            due("15: what " + other, x.length(0, other, 0), DuesOnRungs.NO);
            due("16: part " + other, x.surplus(other), DuesOnRungs.NO);
        }
    }
}
