/** What the document says at the edges of promises 20 to 24; a check for each such word. */
public final class BoundsOfReplaysTest {
    private static final Checks CHECKS = new Checks("BoundsOfReplaysTest");
    private static final int NOW = -1;
    private static final int CHEAP = 0, COST = 10, LACKING = 11;
    private static final int SHORT = 20, SPILT = 21, GREW = 22, PAID = 23;

    private static void due(String what, long got, long want) {
        CHECKS.due(what, got, want);
    }

    public static void main(String[] args) {
        ladderBounds();
        ladderOfNothing();
        need();
        needAtTwo();
        lackingEdges();
        ladderAtMost();
        replayBounds();
        replaySheets();
        replayRungs();
        replayOfNothing();
        shortEdges();
        spiltEdges();
        grewEdges();
        paidEdges();
        daysOfRates();
        worstBounds();
        worstEdges();
        drawnEdges();
        drawnInOrder();
        chanceBounds();
        chanceEdges();
        CHECKS.end();
    }

    private static void ladderBounds() {
        DuesOnRungs x = Books.dues(10, 10);
        due("20: BAD: there are no BONDS", x.ladder(CHEAP, 0), Books.BAD);
        Books.strip(x, 7, 10, 10);
        for (int ranking : Books.outside(0, 3)) {
            due("20: BAD: RANKING " + ranking, x.ladder(ranking, COST), Books.BAD);
        }
        for (int what : Books.outside(0, 0)) {
            due("20: BAD: what " + what, x.ladder(CHEAP, what), Books.BAD);
        }
        for (int b = 1; b < 5; b++) {
            due("20: BAD: no BOND " + b + " yet", x.ladder(CHEAP, b), Books.BAD);
            Books.strip(x, 7, 10, 10);
            due("20: BOND " + b, x.ladder(CHEAP, b), 0);
        }
        for (int what = 5; what <= 9; what++) {
            due("20: BAD: between BONDS and COST, " + what, x.ladder(CHEAP, what), Books.BAD);
        }
        due("20: BAD: behind LACKING", x.ladder(CHEAP, 12), Books.BAD);
    }

    private static void ladderOfNothing() {
        DuesOnRungs x = new DuesOnRungs();
        due("20: no RUNGS: nothing is LACKING", x.ladder(CHEAP, LACKING), 0);
        Books.strip(x, 7, 10, 10);
        due("20: no RUNGS: nothing is BOUGHT", x.ladder(CHEAP, 0), 0);
        due("20: no RUNGS: COST 0", x.ladder(CHEAP, COST), 0);
        DuesOnRungs y = Books.dues(10, 99);
        due("20: no BONDS: all is LACKING", y.ladder(CHEAP, LACKING), 99);
        due("20: no BONDS: COST 0", y.ladder(CHEAP, COST), 0);
    }

    private static void need() {
        int[][] want = {{1, 1}, {3, 1}, {4, 1}, {5, 2}, {8, 2}, {9, 3}, {11, 3}, {12, 3}, {13, 4}, {99, 25}};
        for (int[] w : want) {
            DuesOnRungs x = Books.dues(10, w[0]);
            Books.strip(x, 7, 10, 4);
            due("20: " + w[0] + " over 4, rounded up", x.ladder(CHEAP, 0), w[1]);
            due("20: COST of " + w[1], x.ladder(CHEAP, COST), 7 * w[1]);
            due("20: nothing is LACKING", x.ladder(CHEAP, LACKING), 0);
        }
        DuesOnRungs x = Books.dues(10, 99);
        Books.strip(x, 99, 10, 1);
        due("20: the most that are BOUGHT", x.ladder(CHEAP, 0), 99);
        due("20: they cost", x.ladder(CHEAP, COST), 99 * 99);
    }

    /** Bond 0 pays 5 at RUNG 0 and 10 at RUNG 1, where one is BOUGHT; bond 1 pays 1 at RUNG 0. */
    private static void needAtTwo() {
        DuesOnRungs x = Books.dues(10, 5, 20, 10);
        x.bond(Books.PLAIN, 7, 5, 10, 20, 5);
        Books.strip(x, 3, 10, 1);
        due("20: one is BOUGHT at the last RUNG", x.ladder(CHEAP, 0), 1);
        due("20: DUE less what is PAID is 0: no NEED", x.ladder(CHEAP, 1), 0);
        x.due(10, 6);
        due("20: NEED 1", x.ladder(CHEAP, 1), 1);
        x.due(10, 4);
        due("20: NEED is 0 at least", x.ladder(CHEAP, 1), 0);
        due("20: NEED is 0 at least: nothing is LACKING", x.ladder(CHEAP, LACKING), 0);
        due("20: NEED is 0 at least: COST", x.ladder(CHEAP, COST), 7);
        due("20: what is more does not go to the next RUNG", x.ladder(CHEAP, 0), 1);
    }

    private static void lackingEdges() {
        DuesOnRungs x = Books.dues(10, 5, 20, 10);
        x.bond(Books.SINKER, 7, 0, 10, 20, 20);
        due("20: its last RUNG is 1", x.ladder(CHEAP, 0), 1);
        due("20: at RUNG 0 it has paid enough", x.ladder(CHEAP, LACKING), 0);
        x.due(10, 11);
        due("20: 1 is LACKING: it is not BOUGHT for RUNG 0", x.ladder(CHEAP, LACKING), 1);
        x.due(20, 0);
        due("20: RUNG 0 is its last now", x.ladder(CHEAP, 0), 2);
        x.due(19, 99);
        due("20: it PAYS nothing at the last RUNG", x.ladder(CHEAP, 0), 2);
        due("20: all of that RUNG is LACKING", x.ladder(CHEAP, LACKING), 99);
        x.due(21, 0);
        x.due(9, 98);
        due("20: LACKING of all together", x.ladder(CHEAP, LACKING), 197);
    }

    /** Five RUNGS and five BONDS, each with the last RUNG of its number; then fewer of both. */
    private static void ladderAtMost() {
        DuesOnRungs x = new DuesOnRungs();
        x.image();
        for (int b = 0; b < 5; b++) {
            x.due(5 * b + 5, 60 + b);
            Books.strip(x, 10, 5 * b + 5, 30);
        }
        for (int b = 0; b < 5; b++) {
            due("20: five RUNGS, five BONDS: BOND " + b, x.ladder(CHEAP, b), b == 0 ? 2 : 3);
        }
        due("20: five together cost", x.ladder(CHEAP, COST), 140);
        x.due(25, 0);
        due("20: a RUNG that went needs nothing", x.ladder(CHEAP, COST), 110);
        due("20: nor is it LACKING", x.ladder(CHEAP, LACKING), 0);
        x.due(26, 9);
        x.due(5, 0);
        x.due(2, 7);
        due("20: of five BONDS none fits: LACKING", x.ladder(CHEAP, LACKING), 7);
        x.back();
        x.due(25, 8);
        Books.strip(x, 10, 26, 30);
        due("20: BONDS that are no more are not BOUGHT", x.ladder(CHEAP, COST), 0);
        due("20: of the one that is none fits", x.ladder(CHEAP, LACKING), 8);
    }

    private static void replayBounds() {
        DuesOnRungs x = Books.dues(1, 1, 2, 2, 3, 3, 4, 4, 5, 5);
        for (int what = -3; what <= 26; what++) {
            boolean isOne = what >= 0 && what <= 4 || what >= 10 && what <= 14 || what >= 20 && what <= 23;
            due("21: BAD or not: what " + what, x.replay(NOW, what) == Books.BAD ? 1 : 0, isOne ? 0 : 1);
        }
        for (int what : Books.FAR) {
            due("21: BAD: what " + what, x.replay(NOW, what), Books.BAD);
            due("21: BAD ahead of -11: what " + what, x.replay(0, what), Books.BAD);
        }
        for (int sheet : Books.outside(-1, 3)) {
            due("21: BAD: SHEET " + sheet, x.replay(sheet, SHORT), Books.BAD);
        }
        for (int sheet = 0; sheet < 4; sheet++) {
            due("21: -11: SHEET " + sheet, x.replay(sheet, SHORT), Books.MISSING);
        }
    }

    private static void replaySheets() {
        DuesOnRungs x = Books.dues(10, 10);
        x.sheet(0, Books.INTS, 0);
        due("21: a SHEET of no numbers: RATES as now", x.replay(0, SHORT), 10);
        for (int sort = Books.BYTES; sort <= Books.INTS; sort++) {
            Books.sheet(x, 1, sort, 0, 9, 0, 9, 0);
            due("21: five numbers from 0 to 9", x.replay(1, SHORT), 10);
            Books.sheet(x, 1, sort, 0, 0, 0, 0, 0, 0);
            due("21: BAD: it tells more than 5", x.replay(1, SHORT), Books.BAD);
            due("21: BAD ahead of -12: more than 5", x.replay(1, 1), Books.BAD);
            for (int i = 0; i < 5; i++) {
                Books.sheet(x, 2, sort, 0, 0, 0, 0, 0);
                x.put(2, i, 10);
                due("21: BAD: one is 10: " + i, x.replay(2, SHORT), Books.BAD);
                x.put(2, i, -1);
                due("21: BAD: one is -1: " + i, x.replay(2, SHORT), Books.BAD);
                due("21: BAD ahead of -12: one is -1", x.replay(2, 4), Books.BAD);
                x.put(2, i, 9);
                due("21: 9 is none such", x.replay(2, SHORT), 10);
            }
        }
        Books.sheet(x, 3, Books.INTS, 0, 0, 0, 0, 256);
        due("21: BAD: 256 of ints", x.replay(3, SHORT), Books.BAD);
        Books.sheet(x, 3, Books.BYTES, 0, 0, 0, 0, 256);
        due("21: 256 of bytes is 0", x.replay(3, SHORT), 10);
        due("21: -12 of a SHEET that is well", x.replay(3, 1), Books.OUTSIDE);
        due("21: -11 ahead of -12", new DuesOnRungs().replay(3, 0), Books.MISSING);
    }

    private static void replayRungs() {
        DuesOnRungs x = new DuesOnRungs();
        for (int i = 0; i < 5; i++) {
            due("21: -12: CASH of RUNG " + i + " of " + i, x.replay(NOW, i), Books.OUTSIDE);
            due("21: -12: SHORT of RUNG " + i + " of " + i, x.replay(NOW, 10 + i), Books.OUTSIDE);
            x.due(i + 1, 7);
            due("21: CASH of the last RUNG " + i, x.replay(NOW, i), 0);
            due("21: SHORT of the last RUNG " + i, x.replay(NOW, 10 + i), 7);
        }
    }

    private static void replayOfNothing() {
        DuesOnRungs x = new DuesOnRungs();
        Books.strip(x, 1, 1, 60);
        x.hold(0, 99);
        for (int what = SHORT; what <= PAID; what++) {
            due("21: no RUNGS: " + what, x.replay(NOW, what), 0);
        }
        DuesOnRungs y = Books.dues(10, 99, 20, 99);
        due("21: nothing is HELD: all is SHORT", y.replay(NOW, SHORT), 198);
        due("21: nothing is HELD: nothing is PAID", y.replay(NOW, PAID), 0);
    }

    private static void shortEdges() {
        DuesOnRungs x = Books.dues(10, 10, 20, 10);
        Books.strip(x, 1, 10, 10);
        Books.strip(x, 1, 10, 1);
        x.hold(0, 1);
        due("21: DUE, it is just that much: not SHORT", x.replay(NOW, 10), 0);
        due("21: DUE, it is just that much: CASH 0", x.replay(NOW, 0), 0);
        x.due(10, 11);
        due("21: one less: SHORT by the rest", x.replay(NOW, 10), 1);
        due("21: one less: CASH is 0", x.replay(NOW, 0), 0);
        due("21: what is SHORT is not made good behind it", x.replay(NOW, 11), 10);
        due("21: SHORT of all", x.replay(NOW, SHORT), 11);
        x.hold(1, 2);
        due("21: one more: CASH 1", x.replay(NOW, 0), 1);
        due("21: one more: not SHORT", x.replay(NOW, 10), 0);
    }

    private static void spiltEdges() {
        DuesOnRungs x = Books.dues(10, 10, 20, 1);
        Books.strip(x, 1, 10, 15);
        x.hold(0, 1);
        x.limit(10, 5);
        due("21: CASH that is just the LIMIT: nothing SPILT", x.replay(NOW, SPILT), 0);
        due("21: CASH that is just the LIMIT", x.replay(NOW, 0), 5);
        x.limit(10, 4);
        due("21: what is above the LIMIT is SPILT", x.replay(NOW, SPILT), 1);
        due("21: CASH is the LIMIT then", x.replay(NOW, 0), 4);
        x.limit(10, 0);
        due("21: LIMIT 0: all is SPILT", x.replay(NOW, SPILT), 5);
        due("21: LIMIT 0: no CASH", x.replay(NOW, 0), 0);
        due("21: LIMIT 0: SHORT at the next RUNG", x.replay(NOW, 11), 1);
        x.limit(10, -1);
        x.limit(20, 0);
        due("21: the LIMIT of the last RUNG doesn't matter", x.replay(NOW, SPILT), 0);
        due("21: CASH above it", x.replay(NOW, 1), 4);
        x.due(30, 1);
        due("21: it is no more the last", x.replay(NOW, SPILT), 4);
        due("21: nothing is left for the last", x.replay(NOW, 12), 1);
    }

    /** CASH 1, 2, 3 behind RUNG 0 by RATES of RUNG 1: times (4 and the RATE), over 4, cut. */
    private static void grewEdges() {
        int[][] want = {
            {1, 0, 1}, {1, 3, 1}, {1, 4, 2}, {1, 7, 2}, {1, 8, 3}, {1, 9, 3},
            {2, 0, 2}, {2, 1, 2}, {2, 2, 3}, {2, 9, 6}, {3, 1, 3}, {3, 2, 4}, {3, 3, 5}, {3, 9, 9},
        };
        for (int[] w : want) {
            DuesOnRungs x = Books.dues(10, 50, 20, 1);
            Books.strip(x, 1, 10, 50 + w[0]);
            x.hold(0, 1);
            Books.sheet(x, 0, Books.INTS, 9, w[1]);
            due("21: " + w[0] + " by RATE " + w[1] + " (cut)", x.replay(0, 1), w[2] - 1);
            due("21: by what it is more it GREW", x.replay(0, GREW), w[2] - w[0]);
            due("21: CASH 0 at RUNG 0 does not grow", x.replay(0, 0), w[0]);
        }
        DuesOnRungs x = Books.dues(10, 1, 20, 1);
        Books.strip(x, 1, 20, 9);
        x.hold(0, 1);
        x.rate(1, 3);
        due("21: what is PAID on the RUNG's own DAY has not grown", x.replay(NOW, 1), 8);
        due("21: nothing GREW", x.replay(NOW, GREW), 0);
    }

    private static void paidEdges() {
        DuesOnRungs x = Books.dues(10, 1, 20, 1);
        Books.strip(x, 1, 10, 5);
        Books.strip(x, 1, 11, 6);
        Books.strip(x, 1, 20, 7);
        Books.strip(x, 1, 21, 8);
        Books.strip(x, 1, 1, 9);
        int[][] want = {{0, 4, 3, 5}, {1, 0, 5, 6}, {2, 0, 6, 7}, {3, 0, 0, 0}, {4, 8, 7, 9}};
        for (int[] w : want) {
            x.hold(w[0], 1);
            due("21: payings ahead of the DUE on its DAY, BOND " + w[0], x.replay(NOW, 0), w[1]);
            due("21: CASH behind RUNG 1, BOND " + w[0], x.replay(NOW, 1), w[2]);
            due("21: PAID up to the last RUNG, its own DAY too, BOND " + w[0], x.replay(NOW, PAID), w[3]);
            x.hold(w[0], 0);
        }
        x.hold(0, 99);
        due("21: HELD times what one pays", x.replay(NOW, PAID), 495);
    }

    /** A LINKED that pays 9 and 9 times the RATE, and PAY 1, on one DAY. */
    private static int linked(DuesOnRungs x, int day) {
        return x.bond(Books.LINKED, 1, 9, 30, day, 1);
    }

    private static void daysOfRates() {
        DuesOnRungs x = Books.dues(10, 99, 20, 99);
        int[] days = {1, 10, 11, 20};
        for (int b = 0; b < 4; b++) {
            linked(x, days[b]);
        }
        x.rate(1, 1);
        int[][] want = {{5, 5}, {5, 5}, {1, 5}, {1, 5}};
        for (int b = 0; b < 4; b++) {
            x.hold(b, 1);
            due("21: as now, DAY " + days[b], x.replay(NOW, PAID), 10 + 9);
            Books.sheet(x, 0, Books.BYTES, 5);
            due("21: RUNG 0's RATE is told, DAY " + days[b], x.replay(0, PAID), 10 + 9 * want[b][0]);
            Books.sheet(x, 0, Books.BYTES, 5, 5);
            due("21: both are told, DAY " + days[b], x.replay(0, PAID), 10 + 9 * want[b][1]);
            x.hold(b, 0);
        }
        due("21: RATES are as they were", x.day(10, 0), 1);
        DuesOnRungs y = Books.dues(10, 50, 20, 50);
        y.bond(Books.CALLED, 1, 0, 10, 20, 50);
        y.hold(0, 1);
        due("21: CALLED by RATE 0 as now", y.replay(NOW, 0), 0);
        due("21: CALLED, nothing is left for RUNG 1", y.replay(NOW, 11), 50);
        Books.sheet(y, 0, Books.INTS, 9);
        due("21: not CALLED by RATE 9: SHORT of RUNG 0", y.replay(0, 10), 50);
        due("21: not CALLED: met at END", y.replay(0, 11), 0);
        y.rate(1, 3);
        Books.sheet(y, 0, Books.INTS, 0);
        due("21: CALLED by RATE 0 that is told", y.replay(0, 10), 0);
    }

    private static void worstBounds() {
        DuesOnRungs x = new DuesOnRungs();
        due("22: NONE: no RUNGS", x.worst(0), Books.NONE);
        due("22: 0: no RUNGS", x.worst(1), 0);
        for (int what : Books.outside(0, 1)) {
            due("22: BAD: what " + what, x.worst(what), Books.BAD);
            due("22: BAD: what " + what + " of DUES", Books.dues(10, 1).worst(what), Books.BAD);
        }
    }

    private static void worstEdges() {
        DuesOnRungs x = Books.dues(10, 1, 20, 2, 30, 3);
        due("22: of like ones the first", x.worst(0), 0);
        due("22: SHORT of all RUNGS together", x.worst(1), 6);
        DuesOnRungs y = Books.dues(10, 1);
        Books.strip(y, 1, 10, 1);
        y.hold(0, 1);
        due("22: nothing is SHORT: of like ones the first", y.worst(0), 0);
        due("22: nothing is SHORT: 0", y.worst(1), 0);
        // One LINKED for each RUNG, and 9 times 9 more by RATE 9: least is SHORT where COUPON is 0.
        DuesOnRungs z = Books.dues(10, 99, 20, 99, 30, 99);
        z.bond(Books.LINKED, 1, 2, 30, 10, 1);
        z.bond(Books.LINKED, 1, 1, 30, 20, 1);
        z.bond(Books.LINKED, 1, 3, 30, 30, 1);
        for (int b = 0; b < 3; b++) {
            z.hold(b, 1);
        }
        due("22: the one by which it is most", z.worst(0), 1);
        due("22: SHORT then", z.worst(1), 297 - 3 - 6 - 9);
        z.rate(1, 3);
        due("22: all else as now", z.worst(1), 297 - 3 - 6 - 2 * 3 - 3 * 3 - 9);
        due("22: RATES are as they were", z.rung(1, 2), 3);
    }

    /** LINKED ones on DAYS 5, 10, .. 25, of which RUNGS are; 10 and 9 times the RATE each. */
    private static DuesOnRungs fiveLinked() {
        DuesOnRungs x = new DuesOnRungs();
        for (int b = 0; b < 5; b++) {
            x.due(5 * b + 5, 99);
            linked(x, 5 * b + 5);
        }
        return x;
    }

    private static void drawnEdges() {
        due("23: no RUNGS: nothing is SHORT", new DuesOnRungs().drawn(Books.GREATEST_INT), 0);
        DuesOnRungs x = fiveLinked();
        x.hold(0, 1);
        // 0: 12345 >>> 9 is 24. -1: -1103502900, above 0 as 3191464396 >>> 9, 6233328.
        due("23: SEED 0 draws 0", x.drawn(0), 495 - 10);
        due("23: SEED -1: z >>> 9 is not below 0", x.drawn(-1), 495 - 10 - 9 * (6233328 % 4));
        // The greatest int: 2^31 - 1 times an odd number is 2^31 less that: 2147483648 - 1103515245 + 12345.
        due("23: the greatest int", x.drawn(Books.GREATEST_INT), 495 - 10 - 9 * (1043980748 / 512 % 4));
        // The least int: 2^31 times an odd number is 2^31: 2147483648 + 12345 as a number above 0.
        due("23: the least int", x.drawn(Books.LEAST_INT), 495 - 10 - 9 * (int) (2147495993L / 512 % 4));
        x.rate(1, 3);
        due("23: RATES as they are do not matter", x.drawn(0), 495 - 10);
    }

    private static void drawnInOrder() {
        int[] seeds = {0, 1, -1, 12345, Books.GREATEST_INT, Books.LEAST_INT};
        for (int seed : seeds) {
            long z = seed & 0xFFFFFFFFL;
            for (int b = 0; b < 5; b++) {
                z = (z * 1103515245L + 12345L) & 0xFFFFFFFFL;
                DuesOnRungs x = fiveLinked();
                x.hold(b, 1);
                due("23: anew for RUNG " + b + ", SEED " + seed, x.drawn(seed), 495 - 10 - 9 * (z / 512 % 4));
            }
        }
    }

    private static void chanceBounds() {
        DuesOnRungs x = Books.dues(10, 1);
        for (int m : Books.outside(1, 20)) {
            due("24: BAD: m " + m, x.chance(1, m, 0), Books.BAD);
            due("24: BAD: m " + m + ", below", x.chance(1, m, 1), Books.BAD);
        }
        for (int part : Books.outside(0, 1)) {
            due("24: BAD: part " + part, x.chance(1, 20, part), Books.BAD);
        }
        DuesOnRungs y = new DuesOnRungs();
        for (int m = 1; m <= 20; m++) {
            due("24: none of " + m + ": 0", x.chance(1, m, 0), 0);
            due("24: none of " + m + ": by 1", x.chance(1, m, 1), 1);
            due("24: all of " + m + ": 1", y.chance(1, m, 0), 1);
            due("24: all of " + m + ": by 1", y.chance(1, m, 1), 1);
        }
    }

    /** 20 are due and 10 and 9 times the RATE are paid: RATES 2 and 3 are enough, 1 is not. */
    private static void chanceEdges() {
        DuesOnRungs x = Books.dues(10, 20);
        linked(x, 10);
        x.hold(0, 1);
        int[] seeds = {0, -10, Books.GREATEST_INT, Books.GREATEST_INT - 10, Books.LEAST_INT};
        for (int seed : seeds) {
            int met = 0;
            for (int m = 1; m <= 20; m++) {
                int one = seed + m - 1;
                met += x.drawn(one) == 0 ? 1 : 0;
                int divisor = java.math.BigInteger.valueOf(met).gcd(java.math.BigInteger.valueOf(m)).intValue();
                due("24: SEED " + seed + " and each 1 more (an int), m " + m, x.chance(seed, m, 0), met / divisor);
                due("24: in lowest terms, m " + m, x.chance(seed, m, 1), m / divisor);
            }
        }
    }
}
