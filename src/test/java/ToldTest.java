/** Promises 25 to 29: tells, film, image, back, count. */
public final class ToldTest {
    private static final Checks CHECKS = new Checks("ToldTest");
    private static final int BYTES = 0, INTS = 1;

    private static void due(String what, long got, long want) {
        CHECKS.due(what, got, want);
    }

    private static void sheet(DuesOnRungs x, int sheet, int sort, int... numbers) {
        x.sheet(sheet, sort, numbers.length);
        for (int i = 0; i < numbers.length; i++) {
            x.put(sheet, i, numbers[i]);
        }
    }

    public static void main(String[] args) {
        first();
        numbers();
        wrong();
        film();
        image();
        count();
        CHECKS.end();
    }

    /** 30 are paid for each that is held, 10 and 20 are due: 20, 0 by one. */
    private static DuesOnRungs twoRungs() {
        DuesOnRungs x = new DuesOnRungs();
        x.due(10, 10);
        x.due(20, 20);
        x.bond(1, 1, 0, 30, 10, 30);
        x.hold(0, 1);
        return x;
    }

    private static void firstIs(DuesOnRungs x, int want, int... told) {
        for (int sort = BYTES; sort <= INTS; sort++) {
            sheet(x, 1, sort, told);
            due("25: the first that is otherwise, sort " + sort, x.tells(1, 0, 77), want);
        }
    }

    private static void first() {
        DuesOnRungs x = twoRungs();
        firstIs(x, DuesOnRungs.NONE, 20, 0);
        firstIs(x, DuesOnRungs.NONE, 20);
        firstIs(x, DuesOnRungs.NONE);
        firstIs(x, 0, 19, 0);
        firstIs(x, 1, 20, 1);
        firstIs(x, 2, 20, 0, 0);
        firstIs(x, 0, 0, 5, 5, 5, 5);
    }

    private static void numbersAre(DuesOnRungs x, int many, int least, int... told) {
        sheet(x, 1, INTS, told);
        due("25: by how many", x.tells(1, 1, 0), many);
        due("25: the least", x.tells(1, 2, 0), least);
    }

    private static void numbers() {
        DuesOnRungs x = twoRungs();
        x.hold(0, 7);
        numbersAre(x, 1, 1, 20, 0);
        numbersAre(x, 1, 0, 0);
        numbersAre(x, 1, 99, 99 * 30 - 10);
        numbersAre(x, 0, DuesOnRungs.NONE, 100 * 30 - 10);
        numbersAre(x, 0, DuesOnRungs.NONE, 20, 0, 0);
        numbersAre(x, 100, 0);
        x.limit(10, 15);
        numbersAre(x, 99, 1, 15);
        due("25: as many are held as ever", x.told(0, 6), 7);
        // Another bond that is held counts as it is.
        x.bond(1, 1, 0, 30, 20, 60);
        x.hold(1, 1);
        numbersAre(x, 99, 1, 15, 55);
        numbersAre(x, 1, 0, 0, 40);
    }

    private static void wrong() {
        DuesOnRungs x = twoRungs();
        due("25: missing", x.tells(0, 0, 0), -11);
        due("25: sheet -1", x.tells(-1, 0, 0), DuesOnRungs.BAD);
        due("25: sheet 4", x.tells(4, 0, 0), DuesOnRungs.BAD);
        due("25: what -1", x.tells(0, -1, 0), DuesOnRungs.BAD);
        due("25: what 3", x.tells(0, 3, 0), DuesOnRungs.BAD);
        due("25: bond of 0 does not matter", x.tells(0, 0, 9), -11);
        due("25: bond of 1", x.tells(0, 1, 1), DuesOnRungs.BAD);
        due("25: bond of 2", x.tells(0, 2, -1), DuesOnRungs.BAD);
        sheet(x, 0, INTS, 20, 0, 0, 0, 0, 0);
        due("25: six", x.tells(0, 0, 0), DuesOnRungs.BAD);
    }

    private static void film() {
        DuesOnRungs x = new DuesOnRungs();
        due("26: sheet -1", x.film(-1), DuesOnRungs.BAD);
        due("26: sheet 4", x.film(4), DuesOnRungs.BAD);
        due("26: no rungs", x.film(3), 0);
        due("26: truly a row", x.put(3, 0, 1), -12);
        x = twoRungs();
        x.hold(0, 99);
        sheet(x, 2, BYTES, 1, 2, 3, 4, 5, 6, 7);
        due("26: how many", x.film(2), 2);
        due("26: as it is", x.tells(2, 0, 0), DuesOnRungs.NONE);
        due("26: by one number alone", x.tells(2, 1, 0), 1);
        due("26: by that which is held", x.tells(2, 2, 0), 99);
        due("26: no more items", x.put(2, 2, 1), -12);
        due("26: ints, of another sort than bytes", x.load(2, BYTES, 0, 1), -13);
        due("26: ints", x.load(2, INTS, 0, 1), 0);
        x.hold(0, 1);
        due("26: it stays as it became", x.tells(2, 0, 0), 0);
    }

    private static void image() {
        DuesOnRungs x = twoRungs();
        due("28: there is none", x.back(), DuesOnRungs.STATE);
        x.rate(5, 2);
        x.limit(10, 3);
        due("27: how many bonds", x.image(), 1);
        x.due(10, 0);
        x.due(30, 9);
        x.rate(5, -1);
        x.rate(6, 1);
        x.limit(10, 4);
        x.limit(11, 4);
        x.bond(2, 9, 9, 9, 9, 9);
        x.hold(0, 50);
        x.hold(1, 50);
        x.sheet(0, INTS, 1);
        for (int again = 0; again < 2; again++) {
            due("28: how many bonds", x.back(), 1);
            due("28: rungs", x.count(0), 2);
            due("28: the first", x.rung(0, 0), 10);
            due("28: rates", x.count(1), 1);
            due("28: the rate", x.day(5, 0), 2);
            due("28: limits", x.count(2), 1);
            due("28: the limit", x.rung(0, 3), 3);
            due("28: bonds", x.count(3), 1);
            due("28: held", x.told(0, 6), 1);
            due("28: all held", x.count(4), 1);
            due("28: cash", x.replay(-1, 0), 3);
            due("28: least", x.least(), DuesOnRungs.NO_WAY);
            due("28: sheets are not in it", x.put(0, 0, 1), 1);
            x.hold(0, 2);
            x.due(10, 2);
            x.limit(10, -1);
        }
        due("28: looked at", x.rung(0, 1), 2);
        x.back();
        due("28: asked at once", x.rung(0, 1), 10);
        due("28: a bond comes behind those of the image", x.bond(3, 8, 8, 8, 8, 8), 1);
        due("28: none of it is held", x.told(1, 6), 0);
        due("27: kept anew", x.image(), 2);
        x.bond(4, 7, 7, 7, 7, 7);
        due("28: the later one", x.back(), 2);
        due("28: its terms", x.told(1, 0), 3);
        DuesOnRungs y = new DuesOnRungs();
        y.due(10, 10);
        y.image();
        y.bond(0, 1, 1, 10, 10, 30);
        y.hold(0, 1);
        due("28: it pays", y.replay(-1, 23), 31);
        y.back();
        due("28: what is no more pays nothing", y.replay(-1, 23), 0);
        due("28: nor has it a worth", y.worth(-2, 0), 0);
        due("28: nor a rank", y.ranked(0, 0), -12);
    }

    private static void count() {
        DuesOnRungs x = twoRungs();
        x.bond(2, 9, 9, 9, 9, 9);
        x.hold(1, 41);
        for (int day = 1; day <= 3; day++) {
            x.rate(day, 0);
        }
        for (int day = 7; day <= 10; day++) {
            x.limit(day, 0);
        }
        int[] want = {2, 3, 4, 2, 42};
        for (int what = 0; what < 5; what++) {
            due("29: count " + what, x.count(what), want[what]);
        }
        due("29: what -1", x.count(-1), DuesOnRungs.BAD);
        due("29: what 5", x.count(5), DuesOnRungs.BAD);
    }
}
