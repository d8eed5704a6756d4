/** Promises 1 to 6: a new object, due, rate, limit, rung, day. */
public final class DaysTest {
    private static final Checks CHECKS = new Checks("DaysTest");

    private static void due(String what, long got, long want) {
        CHECKS.due(what, got, want);
    }

    public static void main(String[] args) {
        newObject();
        dues();
        rates();
        limits();
        rungs();
        days();
        CHECKS.end();
    }

    private static void newObject() {
        DuesOnRungs x = new DuesOnRungs();
        for (int what = 0; what <= 4; what++) {
            due("1: count " + what, x.count(what), 0);
        }
        due("1: rung", x.rung(0, 0), -12);
        due("1: told", x.told(0, 0), DuesOnRungs.BAD);
        due("1: back", x.back(), DuesOnRungs.STATE);
        for (int s = 0; s < 4; s++) {
            due("1: sheet " + s, x.put(s, 0, 0), -11);
        }
        due("1: NO", DuesOnRungs.NO, Long.MIN_VALUE);
    }

    private static void dues() {
        DuesOnRungs x = new DuesOnRungs();
        due("2: none was", x.due(1, 1), 0);
        due("2: what was", x.due(1, 99), 1);
        due("2: it has none", x.due(1, 0), 99);
        due("2: none still", x.due(1, 0), 0);
        due("2: day 0", x.due(0, 1), DuesOnRungs.BAD);
        due("2: day 61", x.due(61, 1), DuesOnRungs.BAD);
        due("2: v -1", x.due(1, -1), DuesOnRungs.BAD);
        due("2: v 100", x.due(1, 100), DuesOnRungs.BAD);
        for (int day = 56; day <= 60; day++) {
            due("2: five", x.due(day, day), 0);
        }
        due("2: sixth", x.due(55, 1), DuesOnRungs.FULL);
        due("2: sixth, BAD first", x.due(55, 100), DuesOnRungs.BAD);
        due("2: 0 of a day that has none", x.due(55, 0), 0);
        due("2: another number of one of five", x.due(58, 1), 58);
        due("2: refusals change nothing", x.count(0), 5);
        due("2: one goes", x.due(56, 0), 56);
        due("2: a place is free", x.due(55, 1), 0);
    }

    private static void rates() {
        DuesOnRungs x = new DuesOnRungs();
        due("3: none was", x.rate(1, 0), DuesOnRungs.NONE);
        due("3: what was", x.rate(1, 3), 0);
        due("3: goes", x.rate(1, -1), 3);
        due("3: is gone", x.rate(1, -1), DuesOnRungs.NONE);
        due("3: day 0", x.rate(0, 1), DuesOnRungs.BAD);
        due("3: day 61", x.rate(61, 1), DuesOnRungs.BAD);
        due("3: v -2", x.rate(1, -2), DuesOnRungs.BAD);
        due("3: v 4", x.rate(1, 4), DuesOnRungs.BAD);
        for (int day = 1; day <= 6; day++) {
            due("3: six", x.rate(day, day % 4), DuesOnRungs.NONE);
        }
        due("3: seventh", x.rate(7, 0), DuesOnRungs.FULL);
        due("3: seventh, BAD first", x.rate(7, 4), DuesOnRungs.BAD);
        due("3: none of a day that has none", x.rate(7, -1), DuesOnRungs.NONE);
        due("3: another of one of six", x.rate(6, 1), 2);
        due("3: how many", x.count(1), 6);
    }

    private static void limits() {
        DuesOnRungs x = new DuesOnRungs();
        due("4: none was", x.limit(60, 0), DuesOnRungs.NONE);
        due("4: what was", x.limit(60, 99), 0);
        due("4: goes", x.limit(60, -1), 99);
        due("4: day 0", x.limit(0, 1), DuesOnRungs.BAD);
        due("4: day 61", x.limit(61, 1), DuesOnRungs.BAD);
        due("4: v -2", x.limit(1, -2), DuesOnRungs.BAD);
        due("4: v 100", x.limit(1, 100), DuesOnRungs.BAD);
        for (int day = 1; day <= 5; day++) {
            due("4: five", x.limit(day, day), DuesOnRungs.NONE);
        }
        due("4: sixth", x.limit(6, 0), DuesOnRungs.FULL);
        due("4: sixth, BAD first", x.limit(6, 100), DuesOnRungs.BAD);
        due("4: another of one of five", x.limit(5, 0), 5);
        due("4: how many", x.count(2), 5);
    }

    private static void rungs() {
        DuesOnRungs x = new DuesOnRungs();
        x.due(30, 7);
        x.due(10, 8);
        x.rate(11, 3);
        x.limit(10, 0);
        x.limit(20, 5);
        int[][] want = {{10, 8, 0, 0}, {30, 7, 3, DuesOnRungs.NONE}};
        for (int i = 0; i < 2; i++) {
            for (int what = 0; what <= 3; what++) {
                due("5: rung " + i + ", " + what, x.rung(i, what), want[i][what]);
            }
        }
        due("5: what -1", x.rung(0, -1), DuesOnRungs.BAD);
        due("5: what 4, BAD first", x.rung(9, 4), DuesOnRungs.BAD);
        due("5: rung -1", x.rung(-1, 0), -12);
        due("5: rung 2", x.rung(2, 0), -12);
        x.due(20, 1);
        due("5: numbered anew", x.rung(1, 3), 5);
        x.due(30, 0);
        due("5: the limit of the last one is told", x.rung(1, 3), 5);
    }

    private static void days() {
        DuesOnRungs x = new DuesOnRungs();
        due("6: no rate is told", x.day(60, 0), 0);
        due("6: no rung", x.day(1, 1), DuesOnRungs.NONE);
        x.due(30, 7);
        x.due(10, 8);
        x.rate(11, 3);
        x.rate(20, 1);
        int[][] want = {{1, 0, 0}, {10, 0, 0}, {11, 3, 1}, {19, 3, 1}, {20, 1, 1}, {30, 1, 1}, {31, 1, -1}, {60, 1, -1}};
        for (int[] w : want) {
            due("6: rate of " + w[0], x.day(w[0], 0), w[1]);
            due("6: rung of " + w[0], x.day(w[0], 1), w[2]);
        }
        x.rate(20, -1);
        due("6: the one ahead holds on", x.day(20, 0), 3);
        due("6: day 0", x.day(0, 0), DuesOnRungs.BAD);
        due("6: day 61", x.day(61, 1), DuesOnRungs.BAD);
        due("6: what 2", x.day(1, 2), DuesOnRungs.BAD);
        due("6: what -1", x.day(1, -1), DuesOnRungs.BAD);
    }
}
