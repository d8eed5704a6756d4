/** What the document says at the edges of promises 1 to 6; a check for each such word. */
public final class BoundsOfDaysTest {
    private static final Checks CHECKS = new Checks("BoundsOfDaysTest");

    private static void due(String what, long got, long want) {
        CHECKS.due(what, got, want);
    }

    public static void main(String[] args) {
        newObject();
        newObjectsApart();
        dueBounds();
        dueNone();
        dueFull();
        rateBounds();
        rateNone();
        rateFull();
        limitBounds();
        limitNone();
        limitFull();
        rungBounds();
        rungEdges();
        dayBounds();
        dayEdges();
        CHECKS.end();
    }

    private static void newObject() {
        DuesOnRungs x = new DuesOnRungs();
        due("1: no DUES", x.count(0), 0);
        due("1: no BONDS", x.count(3), 0);
        due("1: no RATE is told", x.count(1), 0);
        due("1: no LIMIT is told", x.count(2), 0);
        due("1: none is HELD", x.count(4), 0);
        due("1: the RATE of the first DAY", x.day(1, 0), 0);
        due("1: the RATE of the last DAY", x.day(60, 0), 0);
        due("1: no RUNG for the first DAY", x.day(1, 1), Books.NONE);
        due("1: no RUNG for the last DAY", x.day(60, 1), Books.NONE);
        due("1: no RUNG 0", x.rung(0, 0), Books.OUTSIDE);
        due("1: no BOND 0", x.told(0, 0), Books.BAD);
        due("1: none to HOLD", x.hold(0, 0), Books.BAD);
        due("1: none that pays", x.pays(0, 1), Books.BAD);
        due("1: none to be taken", x.taken(0, 0), Books.BAD);
        due("1: none is ranked", x.ranked(0, 0), Books.OUTSIDE);
        due("1: no IMAGE", x.back(), Books.STATE);
        for (int s = 0; s < 4; s++) {
            due("1: SHEETS are missing as all are at first, " + s, x.put(s, 0, 0), Books.MISSING);
        }
        due("1: LEAST of nothing", x.least(), 0);
        due("1: it costs nothing, above", x.amount(-1, 0), 0);
        due("1: it costs nothing, below", x.amount(-1, 1), 1);
        due("1: nothing is PAID", x.replay(-1, 23), 0);
        due("1: nothing is SHORT", x.replay(-1, 20), 0);
        due("1: nothing is LACKING", x.ladder(0, 11), 0);
        due("1: NONE", DuesOnRungs.NONE, -1);
        due("1: BAD", DuesOnRungs.BAD, -2);
        due("1: STATE", DuesOnRungs.STATE, -3);
        due("1: FULL", DuesOnRungs.FULL, -4);
        due("1: GREAT", DuesOnRungs.GREAT, -7);
        due("1: NO_WAY", DuesOnRungs.NO_WAY, -8);
        due("1: NO", DuesOnRungs.NO, Long.MIN_VALUE);
    }

    private static void newObjectsApart() {
        DuesOnRungs x = Books.dues(1, 9);
        x.rate(1, 3);
        x.limit(1, 7);
        x.bond(0, 1, 1, 1, 1, 1);
        x.sheet(0, 1, 40);
        x.image();
        DuesOnRungs y = new DuesOnRungs();
        for (int what = 0; what <= 4; what++) {
            due("1: of another object nothing is seen, count " + what, y.count(what), 0);
        }
        due("1: of another object's IMAGE neither", y.back(), Books.STATE);
        due("1: nor of its SHEETS", y.put(0, 0, 0), Books.MISSING);
    }

    private static void dueBounds() {
        DuesOnRungs x = new DuesOnRungs();
        for (int day : Books.outside(1, 60)) {
            due("2: BAD: DAYS are 1 .. 60, not " + day, x.due(day, 5), Books.BAD);
            due("2: BAD, of no DUE too: " + day, x.due(day, 0), Books.BAD);
        }
        for (int v : Books.outside(0, 99)) {
            due("2: BAD: DUES are 1 .. 99 or 0, not " + v, x.due(30, v), Books.BAD);
        }
        due("2: what is refused makes no RUNG", x.count(0), 0);
        due("2: the first DAY", x.due(1, 1), 0);
        due("2: the last DAY", x.due(60, 99), 0);
        due("2: the least DUE", x.rung(0, 1), 1);
        due("2: the greatest DUE", x.rung(1, 1), 99);
        due("2: what it was, of the least", x.due(1, 99), 1);
        due("2: what it was, of the greatest", x.due(60, 1), 99);
    }

    private static void dueNone() {
        DuesOnRungs x = new DuesOnRungs();
        due("2: 0 of a DAY that has none: 0", x.due(7, 0), 0);
        due("2: it has none still", x.count(0), 0);
        x.due(7, 5);
        due("2: 0: what it was", x.due(7, 0), 5);
        due("2: 0: it has none", x.count(0), 0);
        due("2: what it was, of none: 0", x.due(7, 6), 0);
        due("2: the same again", x.due(7, 6), 6);
        due("2: is one RUNG", x.count(0), 1);
    }

    private static void dueFull() {
        DuesOnRungs x = Books.dues(10, 1, 20, 2, 30, 3, 40, 4);
        due("2: the fifth is not FULL", x.due(50, 5), 0);
        due("2: FULL: a sixth", x.due(60, 6), Books.FULL);
        due("2: FULL: a sixth ahead of all", x.due(1, 6), Books.FULL);
        due("2: BAD ahead of FULL: v", x.due(60, 100), Books.BAD);
        due("2: BAD ahead of FULL: day", x.due(61, 6), Books.BAD);
        due("2: FULL changes nothing", x.count(0), 5);
        due("2: no RUNG for the sixth", x.day(60, 1), Books.NONE);
        due("2: 0 of a sixth is not FULL", x.due(60, 0), 0);
        due("2: one of five becomes another", x.due(10, 99), 1);
        due("2: one of five goes", x.due(10, 0), 99);
        due("2: a sixth may come then", x.due(60, 6), 0);
        due("2: and is the last", x.rung(4, 0), 60);
        due("2: FULL again", x.due(10, 1), Books.FULL);
    }

    private static void rateBounds() {
        DuesOnRungs x = new DuesOnRungs();
        for (int day : Books.outside(1, 60)) {
            due("3: BAD: DAYS are 1 .. 60, not " + day, x.rate(day, 1), Books.BAD);
            due("3: BAD, of none too: " + day, x.rate(day, -1), Books.BAD);
        }
        for (int v : Books.outside(-1, 3)) {
            due("3: BAD: RATES are 0 .. 3 or -1, not " + v, x.rate(30, v), Books.BAD);
        }
        due("3: what is refused is not told", x.count(1), 0);
        due("3: the first DAY, the least RATE", x.rate(1, 0), Books.NONE);
        due("3: RATE 0 is told", x.count(1), 1);
        due("3: what was: RATE 0 is not NONE", x.rate(1, 3), 0);
        due("3: the last DAY", x.rate(60, 3), Books.NONE);
        due("3: what was, of the greatest", x.rate(60, 2), 3);
    }

    private static void rateNone() {
        DuesOnRungs x = new DuesOnRungs();
        due("3: -1 of a DAY of which none is told: NONE", x.rate(7, -1), Books.NONE);
        due("3: none is told still", x.count(1), 0);
        x.rate(7, 2);
        due("3: -1: what was", x.rate(7, -1), 2);
        due("3: -1: none is told", x.count(1), 0);
        due("3: its DAY's RATE is 0 again", x.day(7, 0), 0);
    }

    private static void rateFull() {
        DuesOnRungs x = new DuesOnRungs();
        for (int day = 10; day <= 14; day++) {
            x.rate(day, 1);
        }
        due("3: the sixth is not FULL", x.rate(15, 1), Books.NONE);
        due("3: FULL: a seventh", x.rate(16, 2), Books.FULL);
        due("3: FULL: a seventh of 0", x.rate(16, 0), Books.FULL);
        due("3: BAD ahead of FULL: v", x.rate(16, 4), Books.BAD);
        due("3: BAD ahead of FULL: day", x.rate(0, 1), Books.BAD);
        due("3: FULL changes nothing", x.count(1), 6);
        due("3: FULL tells nothing of the DAY", x.day(16, 0), 1);
        due("3: none of a seventh is not FULL", x.rate(16, -1), Books.NONE);
        due("3: one of six becomes another", x.rate(10, 3), 1);
        due("3: one of six goes", x.rate(10, -1), 3);
        due("3: a seventh may come then", x.rate(16, 2), Books.NONE);
        due("3: FULL again", x.rate(10, 1), Books.FULL);
    }

    private static void limitBounds() {
        DuesOnRungs x = new DuesOnRungs();
        for (int day : Books.outside(1, 60)) {
            due("4: BAD: DAYS are 1 .. 60, not " + day, x.limit(day, 1), Books.BAD);
            due("4: BAD, of none too: " + day, x.limit(day, -1), Books.BAD);
        }
        for (int v : Books.outside(-1, 99)) {
            due("4: BAD: LIMITS are 0 .. 99 or -1, not " + v, x.limit(30, v), Books.BAD);
        }
        due("4: what is refused is not told", x.count(2), 0);
        due("4: the first DAY, the least LIMIT", x.limit(1, 0), Books.NONE);
        due("4: LIMIT 0 is told", x.count(2), 1);
        due("4: what was: LIMIT 0 is not NONE", x.limit(1, 99), 0);
        due("4: the last DAY", x.limit(60, 99), Books.NONE);
        due("4: what was, of the greatest", x.limit(60, 2), 99);
    }

    private static void limitNone() {
        DuesOnRungs x = new DuesOnRungs();
        due("4: -1 of a DAY of which none is told: NONE", x.limit(7, -1), Books.NONE);
        due("4: none is told still", x.count(2), 0);
        x.limit(7, 2);
        due("4: -1: what was", x.limit(7, -1), 2);
        due("4: -1: none is told", x.count(2), 0);
    }

    private static void limitFull() {
        DuesOnRungs x = new DuesOnRungs();
        for (int day = 10; day <= 13; day++) {
            x.limit(day, 1);
        }
        due("4: the fifth is not FULL", x.limit(14, 1), Books.NONE);
        due("4: FULL: 5 are told", x.limit(15, 2), Books.FULL);
        due("4: FULL: of LIMIT 0 too", x.limit(15, 0), Books.FULL);
        due("4: BAD ahead of FULL: v", x.limit(15, 100), Books.BAD);
        due("4: BAD ahead of FULL: day", x.limit(61, 1), Books.BAD);
        due("4: FULL changes nothing", x.count(2), 5);
        due("4: none of a sixth is not FULL", x.limit(15, -1), Books.NONE);
        due("4: one of five becomes another", x.limit(10, 0), 1);
        due("4: one of five goes", x.limit(10, -1), 0);
        due("4: a sixth may come then", x.limit(15, 2), Books.NONE);
        due("4: FULL again", x.limit(10, 1), Books.FULL);
    }

    private static void rungBounds() {
        DuesOnRungs x = Books.dues(10, 8, 30, 7);
        for (int what : Books.outside(0, 3)) {
            due("5: BAD: what " + what, x.rung(0, what), Books.BAD);
            due("5: BAD ahead of -12: what " + what, x.rung(2, what), Books.BAD);
        }
        for (int i : Books.outside(0, 1)) {
            for (int what = 0; what <= 3; what++) {
                due("5: -12: there are RUNGS 0 and 1, not " + i + ", what " + what, x.rung(i, what), Books.OUTSIDE);
            }
        }
        due("5: the last RUNG is one", x.rung(1, 0), 30);
        due("5: no RUNG of no DUES", new DuesOnRungs().rung(0, 3), Books.OUTSIDE);
        DuesOnRungs y = Books.dues(1, 1, 2, 2, 3, 3, 4, 4, 60, 5);
        due("5: the fifth of five", y.rung(4, 0), 60);
        due("5: -12: a sixth", y.rung(5, 0), Books.OUTSIDE);
    }

    private static void rungEdges() {
        DuesOnRungs x = Books.dues(60, 1, 30, 2, 1, 3);
        due("5: numbered by DAYS, not as they came: the first", x.rung(0, 0), 1);
        due("5: numbered by DAYS: the last", x.rung(2, 0), 60);
        due("5: NONE: it has no LIMIT", x.rung(1, 3), Books.NONE);
        x.limit(29, 4);
        x.limit(31, 4);
        due("5: LIMITS of the DAYS next to it are not its own", x.rung(1, 3), Books.NONE);
        x.limit(30, 0);
        due("5: LIMIT 0 is one", x.rung(1, 3), 0);
        due("5: no RATE is told: 0", x.rung(1, 2), 0);
        x.rate(30, 3);
        x.rate(31, 2);
        due("5: the RATE told of its own DAY", x.rung(1, 2), 3);
        due("5: of the RUNG ahead still none", x.rung(0, 2), 0);
        due("5: the RATE told behind it is not its own", x.rung(2, 2), 2);
        x.due(1, 0);
        due("5: what goes numbers the others anew", x.rung(0, 0), 30);
    }

    private static void dayBounds() {
        DuesOnRungs x = Books.dues(10, 8);
        for (int day : Books.outside(1, 60)) {
            due("6: BAD: DAYS are 1 .. 60, not " + day, x.day(day, 0), Books.BAD);
            due("6: BAD: of its RUNG too: " + day, x.day(day, 1), Books.BAD);
        }
        for (int what : Books.outside(0, 1)) {
            due("6: BAD: what " + what, x.day(10, what), Books.BAD);
        }
    }

    private static void dayEdges() {
        DuesOnRungs x = Books.dues(10, 8, 59, 1);
        due("6: the first RUNG at it", x.day(10, 1), 0);
        due("6: the first RUNG behind it", x.day(11, 1), 1);
        due("6: from DAY 1 on to the first RUNG", x.day(1, 1), 0);
        due("6: at the last RUNG", x.day(59, 1), 1);
        due("6: NONE behind the last RUNG", x.day(60, 1), Books.NONE);
        due("6: no RATE is told: 0", x.day(60, 0), 0);
        x.rate(10, 3);
        due("6: ahead of the first that is told: 0", x.day(9, 0), 0);
        due("6: the latest DAY up to it may be itself", x.day(10, 0), 3);
        due("6: holds up to the last DAY", x.day(60, 0), 3);
        x.rate(60, 1);
        due("6: ends ahead of the next", x.day(59, 0), 3);
        due("6: told of the last DAY", x.day(60, 0), 1);
        x.rate(1, 2);
        due("6: told of the first DAY", x.day(1, 0), 2);
        due("6: holds ahead of the next", x.day(9, 0), 2);
        x.rate(10, 0);
        due("6: RATE 0 that is told holds, not the one ahead", x.day(10, 0), 0);
        x.rate(10, -1);
        due("6: none is told: the one ahead holds", x.day(10, 0), 2);
        x.due(60, 1);
        due("6: the last DAY is a RUNG", x.day(60, 1), 2);
    }
}
