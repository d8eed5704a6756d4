/** Promises 21 to 24: replay, worst, drawn, chance. */
public final class ReplaysTest {
    private static final Checks CHECKS = new Checks("ReplaysTest");
    private static final int NOW = -1, INTS = 1;

    private static void due(String what, long got, long want) {
        CHECKS.due(what, got, want);
    }

    private static void sheet(DuesOnRungs x, int sheet, int... numbers) {
        x.sheet(sheet, INTS, numbers.length);
        for (int i = 0; i < numbers.length; i++) {
            x.put(sheet, i, numbers[i]);
        }
    }

    private static void cash(DuesOnRungs x, int sheet, int... want) {
        for (int i = 0; i < want.length; i++) {
            due("21: cash behind rung " + i, x.replay(sheet, i), want[i]);
        }
    }

    /** SHORT, SPILT, GREW, PAID. */
    private static void sums(DuesOnRungs x, int sheet, int... want) {
        for (int k = 0; k < 4; k++) {
            due("21: sum " + (20 + k), x.replay(sheet, 20 + k), want[k]);
        }
    }

    public static void main(String[] args) {
        grown();
        falls();
        ratesOfDays();
        outside();
        wrong();
        worst();
        drawn();
        chance();
        CHECKS.end();
    }

    /** Bond 0 pays 3, 3, 43 on days 10, 20, 30; bond 1 pays 30 on day 8. */
    private static DuesOnRungs threeRungs() {
        DuesOnRungs x = new DuesOnRungs();
        x.due(10, 10);
        x.due(20, 20);
        x.due(30, 5);
        x.rate(1, 1);
        x.limit(10, 21);
        x.limit(30, 0);
        x.bond(0, 1, 3, 10, 30, 40);
        x.bond(1, 1, 9, 8, 8, 30);
        x.hold(0, 1);
        x.hold(1, 1);
        return x;
    }

    private static void grown() {
        DuesOnRungs x = threeRungs();
        // 33 - 10, of these 2 spilt; 21 * 5 / 4 is 26, + 3 - 20; 9 * 5 / 4 is 11, + 43 - 5.
        cash(x, NOW, 21, 9, 49);
        sums(x, NOW, 0, 2, 7, 79);
        sheet(x, 0);
        cash(x, 0, 21, 9, 49);
        sheet(x, 0, 9);
        cash(x, 0, 21, 9, 49);
        // 21 * 13 / 4 is 68, + 3 - 20; 51 * 5 / 4 is 63, + 43 - 5.
        sheet(x, 0, 0, 9);
        cash(x, 0, 21, 51, 101);
        cash(x, NOW, 21, 9, 49);
        x.worst(0);
        cash(x, NOW, 21, 9, 49);
        sheet(x, 1, 1);
        cash(x, 0, 21, 51, 101);
        cash(x, 1, 21, 9, 49);
        sums(x, 0, 0, 2, 59, 79);
        sheet(x, 0, 0, 0, 0, 9, 9);
        cash(x, 0, 21, 4, 42);
        due("21: nothing stays of a sheet", x.day(20, 0), 1);
        x.due(30, 0);
        due("21: what is paid behind the last is not PAID", x.replay(NOW, 23), 36);
    }

    private static void falls() {
        DuesOnRungs x = threeRungs();
        x.hold(1, 0);
        x.hold(0, 2);
        // 6 of 10: 4 short; 6 of 20: 14 short; 86 - 5.
        cash(x, NOW, 0, 0, 81);
        due("21: short of rung 0", x.replay(NOW, 10), 4);
        due("21: short of rung 1", x.replay(NOW, 11), 14);
        due("21: short of rung 2", x.replay(NOW, 12), 0);
        sums(x, NOW, 18, 0, 0, 98);
        x.hold(0, 0);
        sums(x, NOW, 35, 0, 0, 0);
        x.due(10, 6);
        x.hold(0, 2);
        due("21: just as much isn't short", x.replay(NOW, 10), 0);
        due("21: nothing is left", x.replay(NOW, 0), 0);
    }

    /** A linked one pays 1 + k + rate on days 5, 10, 15, 20, 25. */
    private static void ratesOfDays() {
        DuesOnRungs x = new DuesOnRungs();
        x.due(10, 1);
        x.due(20, 1);
        x.bond(4, 1, 1, 5, 25, 1);
        x.hold(0, 1);
        x.rate(20, 1);
        due("21: as now", x.replay(NOW, 23), 1 + 2 + 3 + 5);
        sheet(x, 0, 9);
        due("21: days up to rung 0 have its rate", x.replay(0, 23), 10 + 11 + 3 + 5);
        sheet(x, 0, 0, 2);
        due("21: days behind rung 0 up to rung 1 too", x.replay(0, 23), 1 + 2 + 5 + 6);
        DuesOnRungs y = new DuesOnRungs();
        y.due(10, 1);
        y.due(20, 1);
        y.bond(5, 1, 0, 10, 20, 50);
        y.hold(0, 1);
        sheet(y, 0, 1, 0);
        due("21: called on day 10", y.replay(NOW, 0), 49);
        due("21: not called on day 10", y.replay(0, 10), 1);
        due("21: ends on day 20", y.replay(0, 1), 50);
    }

    private static void outside() {
        DuesOnRungs x = new DuesOnRungs();
        sums(x, NOW, 0, 0, 0, 0);
        due("21: no rung", x.replay(NOW, 0), -12);
        due("21: no short of it", x.replay(NOW, 10), -12);
        DuesOnRungs y = threeRungs();
        due("21: rung 3", y.replay(NOW, 3), -12);
        due("21: short of rung 3", y.replay(NOW, 13), -12);
        sheet(y, 0, 10);
        due("21: BAD ahead of -12", y.replay(0, 3), DuesOnRungs.BAD);
        due("21: -11 ahead of -12", y.replay(1, 3), -11);
        y.due(40, 9);
        y.due(50, 10);
        due("21: the limit 0 of rung 2 matters now", y.replay(NOW, 2), 0);
        due("21: short of the fifth rung", y.replay(NOW, 14), 10);
        y.limit(30, -1);
        // 49 * 5 / 4 is 61, - 9; 52 * 5 / 4 is 65, - 10.
        due("21: the fifth rung", y.replay(NOW, 4), 55);
        due("21: nothing is short there", y.replay(NOW, 14), 0);
        due("21: the first question of a new object", threeRungs().replay(NOW, 12), 0);
    }

    private static void wrong() {
        DuesOnRungs x = threeRungs();
        for (int what : new int[] {-1, 5, 9, 15, 19, 24, Integer.MIN_VALUE, Integer.MAX_VALUE}) {
            due("21: what " + what, x.replay(NOW, what), DuesOnRungs.BAD);
            due("21: BAD ahead of -11", x.replay(0, what), DuesOnRungs.BAD);
        }
        due("21: sheet -2", x.replay(-2, 20), DuesOnRungs.BAD);
        due("21: sheet 4", x.replay(4, 20), DuesOnRungs.BAD);
        due("21: missing", x.replay(0, 20), -11);
        sheet(x, 0, 0, 0, 0, 0, 0, 0);
        due("21: six", x.replay(0, 20), DuesOnRungs.BAD);
        sheet(x, 0, 0, 0, 0, 0, 10);
        due("21: the fifth, though it tells of no rung", x.replay(0, 20), DuesOnRungs.BAD);
        sheet(x, 0, -1);
        due("21: below 0", x.replay(0, 20), DuesOnRungs.BAD);
    }

    private static void worst() {
        DuesOnRungs x = new DuesOnRungs();
        due("22: no rungs", x.worst(0), DuesOnRungs.NONE);
        due("22: no short", x.worst(1), 0);
        due("22: what -1", x.worst(-1), DuesOnRungs.BAD);
        due("22: what 2", x.worst(2), DuesOnRungs.BAD);
        x.due(10, 50);
        x.due(20, 5);
        due("22: of like ones the first", x.worst(0), 0);
        due("22: all is short", x.worst(1), 55);
        // Called on day 10 it pays 51, else 1; at the end 52. By rate 9 of rung 0: 49 short and none.
        x.bond(5, 1, 1, 10, 20, 50);
        x.hold(0, 1);
        due("22: not called", x.worst(0), 0);
        due("22: short of rung 0", x.worst(1), 49);
        // Now of rung 1: 20 are due behind 51 - 50 on day 10.
        x.due(20, 99);
        due("22: as now 98 are short", x.replay(NOW, 20), 98);
        due("22: by 0 49 and 47, by 1 99 - 3", x.worst(0), 0);
        due("22: 96 each", x.worst(1), 96);
        x.due(10, 49);
        due("22: by 0 48 and 47, by 1 99 - 2 * 13 / 4", x.worst(0), 0);
        due("22: 95", x.worst(1), 95);
        // Called on day 20 it pays 30 at rung 1; by rate 9 there it is not called and pays nothing.
        DuesOnRungs y = new DuesOnRungs();
        y.due(10, 10);
        y.due(20, 20);
        y.bond(5, 1, 0, 20, 40, 30);
        y.hold(0, 1);
        due("22: the last one can be the worst", y.worst(0), 1);
        due("22: 10 and 20", y.worst(1), 30);
    }

    /** 10 and 9 times the rate are paid on day 10, where 99 are due. */
    private static void drawn() {
        DuesOnRungs x = new DuesOnRungs();
        due("23: no rungs", x.drawn(7), 0);
        x.due(10, 99);
        x.bond(4, 1, 9, 10, 10, 1);
        x.hold(0, 1);
        // z: 12345, 1103527590, 2207042835 (below 0 as an int), 3310558080.
        int[] rates = {12345 / 512 % 4, 1103527590 / 512 % 4, (int) (2207042835L / 512 % 4), (int) (3310558080L / 512 % 4)};
        for (int seed = 0; seed < 4; seed++) {
            due("23: seed " + seed, x.drawn(seed), 89 - 9 * rates[seed]);
        }
        due("23: seed 1 draws 3", x.drawn(1), 62);
        due("23: seed 2 draws 2", x.drawn(2), 71);
        // The second rung's rate is drawn from the z of the first.
        x.due(20, 99);
        x.bond(4, 1, 9, 10, 20, 1);
        x.hold(0, 0);
        x.hold(1, 1);
        int z = 1103527590;
        int next = (z * 1103515245 + 12345 >>> 9) % 4;
        due("23: two rungs", x.drawn(1), 99 - 9 - 27 + 99 - 11 - 9 * next);
    }

    /** Seeds 1, 2, 3, 4 draw 3, 2, 1, 0: 10 and 9 times that are paid. */
    private static void chance() {
        DuesOnRungs x = new DuesOnRungs();
        due("24: nothing is short", x.chance(5, 20, 0), 1);
        due("24: nothing is short", x.chance(5, 20, 1), 1);
        x.due(10, 20);
        x.bond(4, 1, 9, 10, 10, 1);
        x.hold(0, 1);
        int[][] want = {{1, 1, 1}, {2, 1, 1}, {3, 2, 3}, {4, 1, 2}};
        for (int[] w : want) {
            due("24: of " + w[0] + ", above", x.chance(1, w[0], 0), w[1]);
            due("24: of " + w[0] + ", below", x.chance(1, w[0], 1), w[2]);
        }
        due("24: none, above", x.chance(3, 2, 0), 0);
        due("24: none, below", x.chance(3, 2, 1), 1);
        int met = 0;
        for (int k = 0; k < 20; k++) {
            met += x.drawn(Integer.MAX_VALUE - 5 + k) == 0 ? 1 : 0;
        }
        due("24: seeds behind the greatest int", 20L * x.chance(Integer.MAX_VALUE - 5, 20, 0),
            (long) met * x.chance(Integer.MAX_VALUE - 5, 20, 1));
        due("24: m 0", x.chance(1, 0, 0), DuesOnRungs.BAD);
        due("24: m 21", x.chance(1, 21, 0), DuesOnRungs.BAD);
        due("24: part -1", x.chance(1, 1, -1), DuesOnRungs.BAD);
        due("24: part 2", x.chance(1, 1, 2), DuesOnRungs.BAD);
    }
}
