/** What the document says at the edges of promises 25 to 29; a check for each such word. */
public final class BoundsOfToldTest {
    private static final Checks CHECKS = new Checks("BoundsOfToldTest");
    private static final int FIRST = 0, MANY = 1, LEAST = 2;

    private static void due(String what, long got, long want) {
        CHECKS.due(what, got, want);
    }

    public static void main(String[] args) {
        tellsBounds();
        tellsSizes();
        tellsOtherwise();
        tellsNumbers();
        tellsBytes();
        filmBounds();
        filmEdges();
        imageOfNothing();
        imageEdges();
        backAtOnce();
        backRefused();
        countBounds();
        countEdges();
        CHECKS.end();
    }

    /** 1 is due on DAY 10 and 30 are paid there by each. */
    private static DuesOnRungs oneRung() {
        DuesOnRungs x = Books.dues(10, 1);
        Books.strip(x, 1, 10, 30);
        return x;
    }

    private static void tellsBounds() {
        DuesOnRungs x = oneRung();
        Books.sheet(x, 0, Books.INTS, 0);
        for (int sheet : Books.outside(0, 3)) {
            due("25: BAD: SHEET " + sheet, x.tells(sheet, FIRST, 0), Books.BAD);
        }
        for (int what : Books.outside(0, 2)) {
            due("25: BAD: what " + what, x.tells(0, what, 0), Books.BAD);
            due("25: BAD ahead of -11: what " + what, x.tells(1, what, 0), Books.BAD);
        }
        for (int bond : Books.outside(0, 0)) {
            due("25: BAD: BOND " + bond + " of 1", x.tells(0, MANY, bond), Books.BAD);
            due("25: BAD: BOND " + bond + " of 2", x.tells(0, LEAST, bond), Books.BAD);
            due("25: BAD ahead of -11: BOND " + bond, x.tells(1, MANY, bond), Books.BAD);
            due("25: of 0 BOND does not matter: " + bond, x.tells(0, FIRST, bond), Books.NONE);
        }
        for (int sheet = 1; sheet < 4; sheet++) {
            for (int what = FIRST; what <= LEAST; what++) {
                due("25: -11: SHEET " + sheet + ", what " + what, x.tells(sheet, what, 0), Books.MISSING);
            }
        }
        due("25: BAD: there are no BONDS", new DuesOnRungs().tells(0, MANY, 0), Books.BAD);
    }

    private static void tellsSizes() {
        DuesOnRungs x = Books.dues(1, 1, 2, 1, 3, 1, 4, 1, 5, 1);
        Books.strip(x, 1, 1, 1);
        x.sheet(0, Books.INTS, 0);
        due("25: no numbers: none is otherwise", x.tells(0, FIRST, 0), Books.NONE);
        due("25: no numbers: by all of 0 .. 99", x.tells(0, MANY, 0), 100);
        due("25: no numbers: the least is 0", x.tells(0, LEAST, 0), 0);
        x.sheet(0, Books.BYTES, 5);
        due("25: five numbers", x.tells(0, FIRST, 0), Books.NONE);
        x.sheet(0, Books.BYTES, 6);
        for (int what = FIRST; what <= LEAST; what++) {
            due("25: BAD: it tells more than 5, what " + what, x.tells(0, what, 0), Books.BAD);
        }
        x.sheet(0, Books.INTS, 40);
        due("25: BAD: it tells 40", x.tells(0, FIRST, 0), Books.BAD);
    }

    private static void tellsOtherwise() {
        DuesOnRungs x = Books.dues(10, 1, 20, 1);
        Books.strip(x, 1, 10, 3);
        x.hold(0, 1);
        int[][] want = {
            {Books.NONE, 2, 1}, {Books.NONE, 2}, {0, 3, 1}, {0, 1, 1}, {1, 2, 2}, {1, 2, 0}, {2, 2, 1, 0},
            {2, 2, 1, 0, 0, 0}, {2, 2, 1, 7}, {0, 9, 9, 9}, {0, -2, 1},
        };
        for (int[] w : want) {
            Books.sheet(x, 3, Books.INTS, java.util.Arrays.copyOfRange(w, 1, w.length));
            due("25: the first that is otherwise of " + java.util.Arrays.toString(w), x.tells(3, FIRST, 0), w[0]);
        }
        DuesOnRungs y = new DuesOnRungs();
        Books.sheet(y, 0, Books.INTS, 0);
        due("25: there are no RUNGS: a 0 is otherwise, too", y.tells(0, FIRST, 0), 0);
        Books.strip(y, 1, 10, 3);
        due("25: there are no RUNGS: by none", y.tells(0, MANY, 0), 0);
        due("25: there are no RUNGS: NONE", y.tells(0, LEAST, 0), Books.NONE);
    }

    private static void tellsNumbers() {
        DuesOnRungs x = oneRung();
        int[][] want = {{0, 1, 0}, {29, 1, 1}, {28, 0, -1}, {98 * 30 - 1, 1, 98}, {99 * 30 - 1, 1, 99}, {100 * 30 - 1, 0, -1},
            {-1, 0, -1}};
        for (int held = 0; held <= 99; held += 99) {
            x.hold(0, held);
            for (int[] w : want) {
                Books.sheet(x, 0, Books.INTS, w[0]);
                due("25: by how many it is " + w[0] + ", HELD " + held, x.tells(0, MANY, 0), w[1]);
                due("25: the least by which it is " + w[0] + ", HELD " + held, x.tells(0, LEAST, 0), w[2]);
            }
            due("25: as many are HELD as ever", x.told(0, 6), held);
        }
        x.due(20, 1);
        x.limit(10, 99);
        Books.sheet(x, 0, Books.INTS, 99, 98);
        due("25: 4 .. 99 come to the LIMIT", x.tells(0, MANY, 0), 96);
        due("25: the least that comes to it", x.tells(0, LEAST, 0), 4);
        Books.sheet(x, 0, Books.INTS, 89, 88);
        due("25: 90 - 1 is below it", x.tells(0, LEAST, 0), 3);
    }

    /** Lowest 8 bits of v: up to 127 a byte is the number itself, by all readings. */
    private static void tellsBytes() {
        DuesOnRungs x = Books.dues(10, 3);
        x.bond(Books.SINKER, 1, 0, 1, 30, 60);
        Books.strip(x, 1, 10, 50);
        Books.strip(x, 1, 10, 50);
        for (int b = 0; b < 3; b++) {
            x.hold(b, 1);
        }
        due("25: CASH is 127", x.replay(-1, 0), 127);
        for (int v : new int[] {127, 127 + 256, 127 - 256, Integer.MAX_VALUE - 128}) {
            Books.sheet(x, 0, Books.BYTES, v);
            due("25: a byte of " + v, x.tells(0, FIRST, 0), Books.NONE);
            Books.sheet(x, 0, Books.INTS, v);
            due("25: an int of " + v, x.tells(0, FIRST, 0), v == 127 ? Books.NONE : 0);
        }
    }

    private static void filmBounds() {
        DuesOnRungs x = oneRung();
        for (int sheet : Books.outside(0, 3)) {
            due("26: BAD: SHEET " + sheet, x.film(sheet), Books.BAD);
        }
        for (int sheet = 0; sheet < 4; sheet++) {
            due("26: SHEET " + sheet + " that was missing", x.film(sheet), 1);
            due("26: it is there", x.put(sheet, 0, 0), 1);
        }
    }

    private static void filmEdges() {
        DuesOnRungs x = new DuesOnRungs();
        x.sheet(0, Books.BYTES, 40);
        due("26: no RUNGS: 0", x.film(0), 0);
        due("26: a row of no numbers, not a missing one", x.put(0, 0, 0), Books.OUTSIDE);
        due("26: of ints", x.load(0, Books.BYTES, 0, 0), Books.OTHER_SORT);
        for (int n = 1; n <= 5; n++) {
            x.due(n, n);
            due("26: how many: " + n, x.film(1), n);
            due("26: so many and no more", x.put(1, n, 0), Books.OUTSIDE);
            due("26: the last of them", x.put(1, n - 1, 0), 1);
        }
        DuesOnRungs y = oneRung();
        y.hold(0, 99);
        y.film(2);
        due("26: CASH above what a byte holds", y.tells(2, FIRST, 0), Books.NONE);
        y.hold(0, 98);
        due("26: truly a row: it does not follow what comes later", y.tells(2, FIRST, 0), 0);
        due("26: by the number that was HELD", y.tells(2, LEAST, 0), 99);
    }

    private static void imageOfNothing() {
        DuesOnRungs x = new DuesOnRungs();
        due("28: STATE: there is none", x.back(), Books.STATE);
        due("27: no BONDS: 0", x.image(), 0);
        due("28: back to nothing: 0", x.back(), 0);
        x.due(1, 1);
        x.rate(1, 1);
        x.limit(1, 1);
        x.bond(0, 1, 1, 1, 1, 1);
        x.hold(0, 1);
        due("28: no BONDS", x.back(), 0);
        for (int what = 0; what <= 4; what++) {
            due("28: nothing is left, count " + what, x.count(what), 0);
        }
        due("28: a BOND is numbered from 0 again", x.bond(0, 1, 1, 1, 1, 1), 0);
        due("28: none of it is HELD", x.told(0, 6), 0);
    }

    private static void imageEdges() {
        DuesOnRungs x = new DuesOnRungs();
        for (int n = 1; n <= 5; n++) {
            x.due(n, n);
            x.rate(n, 1);
            x.limit(n, n);
            x.bond(0, n, 1, 1, 1, 1);
            x.hold(n - 1, n);
            due("27: how many BONDS: " + n, x.image(), n);
        }
        x.rate(6, 1);
        x.sheet(0, Books.INTS, 7);
        x.image();
        x.sheet(0, Books.BYTES, 3);
        x.sheet(1, Books.INTS, 2);
        x.due(1, 0);
        x.due(6, 9);
        x.hold(4, 0);
        due("28: how many BONDS", x.back(), 5);
        due("28: a DUE that went is back", x.due(1, 1), 1);
        due("28: a DUE that came is gone", x.day(6, 1), Books.NONE);
        due("28: HELD as in THE IMAGE", x.hold(4, 5), 5);
        due("28: FULL as in THE IMAGE: DUES", x.due(7, 1), Books.FULL);
        due("28: FULL as in THE IMAGE: RATES", x.rate(7, 1), Books.FULL);
        due("28: FULL as in THE IMAGE: LIMITS", x.limit(7, 1), Books.FULL);
        due("28: FULL as in THE IMAGE: BONDS", x.bond(0, 1, 1, 1, 1, 1), Books.FULL);
        due("28: THE IMAGE keeps all but SHEETS: 0 has its later size", x.put(0, 3, 1), Books.OUTSIDE);
        due("28: THE IMAGE keeps all but SHEETS: 1 is not missing", x.put(1, 1, 1), 1);
        due("28: THE IMAGE can be laid back again", x.back(), 5);
        x.due(5, 0);
        due("27: the later IMAGE", x.image(), 5);
        x.due(5, 1);
        x.back();
        due("28: is laid back, not the one ahead", x.count(0), 4);
    }

    /** What was asked ahead of back() says nothing of what is asked behind it. */
    private static void backAtOnce() {
        DuesOnRungs x = oneRung();
        x.hold(0, 1);
        x.image();
        x.due(10, 2);
        x.due(11, 3);
        x.rate(1, 1);
        Books.strip(x, 1, 10, 20);
        x.hold(1, 1);
        due("28: ahead of it: CASH", x.replay(-1, 0), 48);
        due("28: ahead of it: LEAST", x.least(), 2);
        x.back();
        due("28: at once: CASH", x.replay(-1, 0), 29);
        x.due(11, 3);
        due("28: ahead of it: two RUNGS", x.rung(1, 0), 11);
        x.back();
        due("28: at once: one RUNG", x.rung(1, 0), Books.OUTSIDE);
        x.rate(1, 1);
        due("28: ahead of it: RATE", x.day(60, 0), 1);
        x.back();
        due("28: at once: RATE", x.day(60, 0), 0);
        Books.strip(x, 1, 10, 60);
        due("28: ahead of it: COST by the better one", x.amount(-1, 1), 60);
        x.back();
        due("28: at once: COST", x.amount(-1, 1), 30);
        due("28: at once: LEAST", x.least(), 1);
    }

    private static void backRefused() {
        DuesOnRungs x = oneRung();
        x.hold(0, 3);
        due("28: STATE of an object that is not empty", x.back(), Books.STATE);
        due("28: STATE changes nothing: DUES", x.count(0), 1);
        due("28: STATE changes nothing: BONDS", x.count(3), 1);
        due("28: STATE changes nothing: HELD", x.count(4), 3);
    }

    private static void countBounds() {
        for (int what : Books.outside(0, 4)) {
            due("29: BAD: what " + what, new DuesOnRungs().count(what), Books.BAD);
            due("29: BAD: what " + what + " of one that is not empty", oneRung().count(what), Books.BAD);
        }
    }

    private static void countEdges() {
        DuesOnRungs x = new DuesOnRungs();
        for (int n = 1; n <= 6; n++) {
            x.due(10 + n, 1);
            x.rate(20 + n, 0);
            x.limit(30 + n, 0);
            x.bond(0, 1, 1, 1, 1, 1);
            x.hold(n - 1, 99);
            int most = Math.min(n, 5);
            due("29: RUNGS, 5 at most", x.count(0), most);
            due("29: DAYS with a RATE, 6 at most, of 0 too", x.count(1), n);
            due("29: DAYS with a LIMIT, 5 at most, of 0 too", x.count(2), most);
            due("29: BONDS, 5 at most", x.count(3), most);
            due("29: BONDS HELD, together", x.count(4), 99 * most);
        }
    }
}
