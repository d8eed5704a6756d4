/** Promises 7 to 13: bond, hold, told, pays, paysAt, taken, ranked. */
public final class BondsTest {
    private static final Checks CHECKS = new Checks("BondsTest");
    private static final int PLAIN = 0, STRIP = 1, STEPPED = 2, SINKER = 3, LINKED = 4, CALLED = 5;

    private static void due(String what, long got, long want) {
        CHECKS.due(what, got, want);
    }

    public static void main(String[] args) {
        begin();
        hold();
        payings();
        called();
        atRungs();
        taken();
        ranked();
        CHECKS.end();
    }

    private static void begin() {
        DuesOnRungs x = new DuesOnRungs();
        int[] low = {0, 1, 0, 1, 1, 1};
        int[] high = {5, 99, 9, 30, 60, 60};
        for (int k = 0; k < 6; k++) {
            int[] a = low.clone();
            a[k] = low[k] - 1;
            due("7: below, " + k, x.bond(a[0], a[1], a[2], a[3], a[4], a[5]), DuesOnRungs.BAD);
            a[k] = high[k] + 1;
            due("7: above, " + k, x.bond(a[0], a[1], a[2], a[3], a[4], a[5]), DuesOnRungs.BAD);
        }
        due("7: refusals change nothing", x.count(3), 0);
        due("7: least", x.bond(0, 1, 0, 1, 1, 1), 0);
        due("7: greatest", x.bond(5, 99, 9, 30, 60, 60), 1);
        for (int b = 2; b < 5; b++) {
            due("7: next", x.bond(b, 10 + b, b, 20 + b, 30 + b, 40 + b), b);
        }
        due("7: sixth", x.bond(0, 1, 0, 1, 1, 1), DuesOnRungs.FULL);
        due("7: sixth, BAD first", x.bond(0, 0, 0, 1, 1, 1), DuesOnRungs.BAD);
        int[] want = {3, 13, 3, 23, 33, 43, 0, DuesOnRungs.NONE, 0};
        for (int what = 0; what <= 8; what++) {
            due("9: told " + what, x.told(3, what), want[what]);
        }
        due("9: what -1", x.told(3, -1), DuesOnRungs.BAD);
        due("9: what 9", x.told(3, 9), DuesOnRungs.BAD);
        due("9: bond -1", x.told(-1, 0), DuesOnRungs.BAD);
        due("9: bond 5", x.told(5, 0), DuesOnRungs.BAD);
    }

    private static void hold() {
        DuesOnRungs x = new DuesOnRungs();
        due("8: no bond", x.hold(0, 1), DuesOnRungs.BAD);
        x.bond(PLAIN, 1, 1, 1, 1, 1);
        due("8: none were", x.hold(0, 99), 0);
        due("8: n 100", x.hold(0, 100), DuesOnRungs.BAD);
        due("8: n -1", x.hold(0, -1), DuesOnRungs.BAD);
        due("8: bond -1", x.hold(-1, 1), DuesOnRungs.BAD);
        due("8: told", x.told(0, 6), 99);
        due("8: how many were", x.hold(0, 0), 99);
        due("8: are held", x.told(0, 6), 0);
    }

    /** Coupon 3, step 10, end 25, pay 41: paying days 10, 20, 25, and the rate of day 20 on is 2. */
    private static void payings() {
        DuesOnRungs x = new DuesOnRungs();
        x.rate(20, 2);
        int[][] want = {{3, 3, 44}, {0, 0, 41}, {3, 4, 46}, {20, 0, 21}, {3, 10, 52}};
        int[] days = {10, 20, 25};
        for (int kind = PLAIN; kind <= LINKED; kind++) {
            x.bond(kind, 1, 3, 10, 25, 41);
            for (int day = 1; day <= 60; day++) {
                int k = day == days[0] ? 0 : day == days[1] ? 1 : day == days[2] ? 2 : -1;
                due("10: kind " + kind + ", day " + day, x.pays(kind, day), k < 0 ? 0 : want[kind][k]);
            }
        }
        due("10: day 0", x.pays(0, 0), DuesOnRungs.BAD);
        due("10: day 61", x.pays(0, 61), DuesOnRungs.BAD);
        due("10: bond 5", x.pays(5, 10), DuesOnRungs.BAD);
        due("10: bond -1", x.pays(-1, 10), DuesOnRungs.BAD);
        DuesOnRungs y = new DuesOnRungs();
        y.bond(STEPPED, 1, 0, 30, 60, 9);
        due("10: an end that is a multiple pays once", y.pays(0, 60), 10);
        y.bond(SINKER, 1, 9, 30, 10, 7);
        due("10: a sinker that ends on its first day", y.pays(1, 10), 7);
    }

    /** Coupon 1, step 10, end 40, pay 30. */
    private static void called() {
        DuesOnRungs x = new DuesOnRungs();
        x.bond(CALLED, 1, 1, 10, 40, 30);
        x.rate(1, 1);
        calledPays(x, "not called", 1, 2, 3, 34);
        x.rate(15, 0);
        calledPays(x, "called on the second day", 1, 32, 0, 0);
        x.rate(15, 1);
        x.rate(35, 0);
        calledPays(x, "at the end there is no call", 1, 2, 3, 34);
        x.rate(1, -1);
        calledPays(x, "no rate is told: 0", 31, 0, 0, 0);
        DuesOnRungs y = new DuesOnRungs();
        y.bond(CALLED, 1, 1, 30, 20, 30);
        due("10: the first day is the end", y.pays(0, 20), 31);
    }

    private static void calledPays(DuesOnRungs x, String what, int... want) {
        for (int k = 0; k < 4; k++) {
            due("10: " + what + ", day " + (10 * k + 10), x.pays(0, 10 * k + 10), want[k]);
        }
    }

    private static void atRungs() {
        DuesOnRungs x = new DuesOnRungs();
        x.bond(PLAIN, 1, 2, 10, 50, 40);
        due("11: no rungs", x.paysAt(0, 0), -12);
        due("9: it pays at none", x.told(0, 7), DuesOnRungs.NONE);
        x.due(20, 1);
        x.due(49, 1);
        due("11: from day 1 on, the rung's own day too", x.paysAt(0, 0), 4);
        due("11: behind the rung ahead", x.paysAt(0, 1), 4);
        due("9: the last rung at which it pays", x.told(0, 7), 1);
        due("9: what comes behind the last doesn't count", x.told(0, 8), 8);
        x.due(50, 1);
        due("11: the third", x.paysAt(0, 2), 42);
        x.due(60, 1);
        due("11: nothing", x.paysAt(0, 3), 0);
        due("9: still the third", x.told(0, 7), 2);
        due("9: all", x.told(0, 8), 50);
        DuesOnRungs y = new DuesOnRungs();
        y.due(1, 1);
        y.due(60, 1);
        y.bond(PLAIN, 1, 1, 1, 60, 7);
        due("11: day 1", y.paysAt(0, 0), 1);
        due("11: days 2 to 60", y.paysAt(0, 1), 66);
        due("11: BAD", x.paysAt(1, 0), DuesOnRungs.BAD);
        due("11: BAD first", x.paysAt(-1, 9), DuesOnRungs.BAD);
        due("11: rung -1", x.paysAt(0, -1), -12);
        due("11: rung 4", x.paysAt(0, 4), -12);
    }

    private static void taken() {
        int[] chains = {0b000001, 0b000011, 0b000101, 0b001011, 0b010101, 0b100101};
        for (int kind = PLAIN; kind <= CALLED; kind++) {
            DuesOnRungs x = new DuesOnRungs();
            x.bond(kind, 70 + kind, 1, 1, 1, 1);
            for (int k = PLAIN; k <= CALLED; k++) {
                boolean isOne = (chains[kind] >> k & 1) == 1;
                due("12: " + kind + " for " + k, x.taken(0, k), isOne ? 70 + kind : -13);
            }
            due("12: kind -1", x.taken(0, -1), DuesOnRungs.BAD);
            due("12: kind 6", x.taken(0, 6), DuesOnRungs.BAD);
            due("12: bond 1", x.taken(1, 0), DuesOnRungs.BAD);
            due("12: bond -1", x.taken(-1, 0), DuesOnRungs.BAD);
        }
    }

    private static void order(DuesOnRungs x, int ranking, int... want) {
        for (int i = 0; i < want.length; i++) {
            due("13: ranking " + ranking + ", " + i, x.ranked(ranking, i), want[i]);
        }
        due("13: behind the last", x.ranked(ranking, want.length), -12);
        due("13: ahead of the first", x.ranked(ranking, -1), -12);
    }

    private static void ranked() {
        DuesOnRungs x = new DuesOnRungs();
        x.bond(STRIP, 30, 4, 30, 20, 60);
        x.bond(PLAIN, 20, 5, 30, 40, 9);
        x.bond(STRIP, 10, 4, 30, 30, 20);
        x.bond(PLAIN, 20, 5, 30, 20, 9);
        x.bond(STRIP, 99, 9, 30, 30, 1);
        order(x, 0, 2, 1, 3, 0, 4);
        order(x, 2, 1, 2, 4, 0, 3);
        order(x, 3, 4, 1, 3, 0, 2);
        order(x, 1, 0, 1, 2, 3, 4);
        // By day 30: 60, 5, 20, 14 and 1 are paid: 30/60, 20/5, 10/20, 20/14, 99/1.
        x.due(30, 1);
        order(x, 1, 0, 2, 3, 1, 4);
        // By day 20 bonds 0 and 3 pay alone: the others come last, by numbers.
        x.due(30, 0);
        x.due(20, 1);
        order(x, 1, 0, 3, 1, 2, 4);
        due("13: ranking -1", x.ranked(-1, 0), DuesOnRungs.BAD);
        due("13: ranking 4, BAD first", x.ranked(4, 9), DuesOnRungs.BAD);
    }
}
