/** What the document says at the edges of promises 14 to 16; a check for each such word. */
public final class BoundsOfWorthsTest {
    private static final Checks CHECKS = new Checks("BoundsOfWorthsTest");
    private static final int DUES = -1, HELD = -2, LENGTH = 0, SPREAD = 1;

    private static void due(String what, long got, long want) {
        CHECKS.due(what, got, want);
    }

    public static void main(String[] args) {
        worthBounds();
        worthOfNothing();
        lowestTerms();
        worthAtEdges();
        lengthBounds();
        lengthOfNothing();
        lengthEdges();
        spreadGreat();
        surplusBounds();
        surplusEdges();
        CHECKS.end();
    }

    private static void worth(String what, DuesOnRungs x, int row, long above, long below) {
        due("14: " + what + ", above", x.worth(row, 0), above);
        due("14: " + what + ", below", x.worth(row, 1), below);
    }

    private static void length(String words, DuesOnRungs x, int row, int what, long above, long below) {
        due("15: " + words + ", above", x.length(row, what, 0), above);
        due("15: " + words + ", below", x.length(row, what, 1), below);
    }

    private static void surplus(String what, DuesOnRungs x, long above, long below) {
        due("16: " + what + ", above", x.surplus(0), above);
        due("16: " + what + ", below", x.surplus(1), below);
    }

    private static void worthBounds() {
        DuesOnRungs x = Books.dues(10, 10);
        due("14: NO: there are no BONDS", x.worth(0, 0), Books.NO);
        Books.strip(x, 1, 10, 25);
        due("14: a BOND's row", x.worth(0, 0), 25);
        for (int row : Books.outside(-2, 0)) {
            due("14: NO: row " + row, x.worth(row, 0), Books.NO);
            due("14: NO: row " + row + ", below", x.worth(row, 1), Books.NO);
        }
        for (int part : Books.outside(0, 1)) {
            for (int row = -2; row <= 0; row++) {
                due("14: NO: part " + part + " of " + row, x.worth(row, part), Books.NO);
            }
        }
        for (int b = 1; b < 5; b++) {
            Books.strip(x, 1, 10, 25);
        }
        due("14: the fifth BOND's row", x.worth(4, 0), 25);
        due("14: NO: a sixth", x.worth(5, 0), Books.NO);
    }

    private static void worthOfNothing() {
        DuesOnRungs x = new DuesOnRungs();
        worth("no RUNGS: nothing is 0 by 1", x, DUES, 0, 1);
        worth("no BONDS: nothing is 0 by 1", x, HELD, 0, 1);
        Books.strip(x, 1, 11, 25);
        x.hold(0, 99);
        worth("no RUNGS, of a BOND", x, 0, 0, 1);
        worth("no RUNGS, of all HELD", x, HELD, 0, 1);
        x.due(10, 10);
        x.rate(10, 3);
        worth("a BOND that pays behind the last RUNG alone", x, 0, 0, 1);
        worth("all HELD that pay behind the last RUNG alone", x, HELD, 0, 1);
        Books.strip(x, 1, 10, 25);
        x.hold(0, 0);
        worth("nothing is HELD", x, HELD, 0, 1);
    }

    private static void lowestTerms() {
        DuesOnRungs x = Books.dues(10, 1);
        worth("FACTOR of RATE 0: 1", x, DUES, 1, 1);
        x.rate(10, 1);
        worth("RATE 1: 5/4", x, DUES, 4, 5);
        x.rate(10, 2);
        worth("RATE 2: 6/4, in lowest terms", x, DUES, 2, 3);
        x.rate(10, 3);
        worth("RATE 3: 7/4", x, DUES, 4, 7);
        x.due(10, 7);
        worth("whole: below is 1", x, DUES, 4, 1);
        x.due(10, 99);
        worth("the greatest DUE", x, DUES, 396, 7);
    }

    private static void worthAtEdges() {
        DuesOnRungs x = Books.dues(10, 1, 20, 1, 30, 1, 40, 1, 50, 1);
        x.rate(50, 1);
        worth("the fifth RUNG's own FACTOR counts there", x, DUES, 24, 5);
        x.rate(50, -1);
        x.rate(10, 1);
        x.rate(11, 0);
        worth("the first RUNG's FACTOR counts at all", x, DUES, 4, 1);
        Books.strip(x, 1, 30, 25);
        worth("of one of a BOND, though none is HELD", x, 0, 20, 1);
        x.hold(0, 99);
        worth("of one of a BOND, though 99 are HELD", x, 0, 20, 1);
        worth("of the most that are HELD", x, HELD, 1980, 1);
    }

    private static void lengthBounds() {
        DuesOnRungs x = Books.dues(10, 10);
        for (int what = LENGTH; what <= SPREAD; what++) {
            due("15: NO: there are no BONDS", x.length(0, what, 0), Books.NO);
        }
        Books.strip(x, 1, 10, 25);
        x.hold(0, 1);
        for (int row : Books.outside(-2, 0)) {
            due("15: NO: row " + row, x.length(row, LENGTH, 0), Books.NO);
            due("15: NO: SPREAD of row " + row, x.length(row, SPREAD, 1), Books.NO);
        }
        for (int other : Books.outside(0, 1)) {
            for (int row = -2; row <= 0; row++) {
                due("15: NO: what " + other + " of " + row, x.length(row, other, 0), Books.NO);
                due("15: NO: part " + other + " of " + row, x.length(row, LENGTH, other), Books.NO);
                due("15: NO: part " + other + " of SPREAD of " + row, x.length(row, SPREAD, other), Books.NO);
            }
        }
    }

    private static void lengthOfNothing() {
        DuesOnRungs x = new DuesOnRungs();
        Books.strip(x, 1, 11, 25);
        x.hold(0, 1);
        for (int row = -2; row <= 0; row++) {
            for (int what = LENGTH; what <= SPREAD; what++) {
                length("NO: no RUNGS, WORTH is 0, row " + row, x, row, what, Books.NO, Books.NO);
            }
        }
        x.due(10, 10);
        for (int what = LENGTH; what <= SPREAD; what++) {
            length("NO: WORTH is 0 of what pays behind the last RUNG", x, 0, what, Books.NO, Books.NO);
            length("NO: WORTH is 0 of such that are HELD", x, HELD, what, Books.NO, Books.NO);
        }
        x.due(11, 10);
        x.hold(0, 0);
        for (int what = LENGTH; what <= SPREAD; what++) {
            length("NO: nothing is HELD, WORTH is 0", x, HELD, what, Books.NO, Books.NO);
        }
    }

    private static void lengthEdges() {
        DuesOnRungs one = Books.dues(10, 1);
        length("WORTH 1 is not 0", one, DUES, LENGTH, 1, 1);
        length("WORTH 1 is not 0: its SPREAD", one, DUES, SPREAD, 0, 1);
        DuesOnRungs x = Books.dues(10, 99);
        x.rate(10, 3);
        length("one RUNG: 1", x, DUES, LENGTH, 1, 1);
        length("one RUNG: nothing is 0 by 1", x, DUES, SPREAD, 0, 1);
        for (int day = 11; day <= 14; day++) {
            x.due(day, 1);
        }
        Books.strip(x, 1, 14, 60);
        length("at the fifth RUNG alone: 5", x, 0, LENGTH, 5, 1);
        length("at the fifth RUNG alone: nothing", x, 0, SPREAD, 0, 1);
        Books.strip(x, 1, 10, 60);
        length("at RUNG 0 alone: 1", x, 1, LENGTH, 1, 1);
        DuesOnRungs y = Books.dues(10, 1, 20, 1);
        length("in lowest terms: 3/2", y, DUES, LENGTH, 3, 2);
        length("(1/4 and 1/4) by 2", y, DUES, SPREAD, 1, 4);
    }

    /** 1247/439 is the LENGTH by RATES 0, 4391/439 less its square the SPREAD; by five RATES it is great. */
    private static void spreadGreat() {
        DuesOnRungs x = Books.dues(5, 99, 9, 97, 20, 89, 31, 83, 59, 71);
        length("RATES 0: SPREAD is not GREAT", x, DUES, SPREAD, 372640, 192721);
        int[][] rates = {{1, 3}, {6, 1}, {10, 2}, {21, 3}, {32, 1}};
        for (int[] rate : rates) {
            x.rate(rate[0], rate[1]);
        }
        length("LENGTH is not GREAT", x, DUES, LENGTH, 306775, 140003);
        length("NO: SPREAD is GREAT", x, DUES, SPREAD, Books.NO, Books.NO);
        length("LENGTH is what it was", x, DUES, LENGTH, 306775, 140003);
        worth("WORTH too", x, DUES, 560012, 3675);
        x.rate(32, -1);
        x.rate(21, -1);
        x.rate(10, -1);
        x.rate(6, -1);
        x.rate(1, -1);
        length("it is not GREAT for ever", x, DUES, SPREAD, 372640, 192721);
    }

    private static void surplusBounds() {
        DuesOnRungs x = Books.dues(10, 10);
        for (int part : Books.outside(0, 1)) {
            due("16: NO: part " + part, x.surplus(part), Books.NO);
            due("16: NO of a new object: part " + part, new DuesOnRungs().surplus(part), Books.NO);
        }
    }

    private static void surplusEdges() {
        DuesOnRungs x = new DuesOnRungs();
        surplus("nothing less nothing: 0 by 1", x, 0, 1);
        Books.strip(x, 1, 10, 10);
        x.hold(0, 1);
        surplus("no RUNGS: 0 by 1", x, 0, 1);
        x.due(10, 10);
        surplus("just as much: 0 by 1", x, 0, 1);
        x.rate(10, 1);
        surplus("just as much by another FACTOR: 0 by 1", x, 0, 1);
        x.due(10, 11);
        surplus("one more is DUE: below 0, below the line above 0", x, -4, 5);
        x.due(10, 9);
        surplus("one less is DUE", x, 4, 5);
        x.hold(0, 0);
        surplus("none is HELD", x, -36, 5);
    }
}
