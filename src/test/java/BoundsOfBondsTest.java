/** What the document says at the edges of promises 7 to 13; a check for each such word. */
public final class BoundsOfBondsTest {
    private static final Checks CHECKS = new Checks("BoundsOfBondsTest");

    private static void due(String what, long got, long want) {
        CHECKS.due(what, got, want);
    }

    public static void main(String[] args) {
        bondBounds();
        bondFull();
        hold();
        toldBounds();
        toldAtRungs();
        paysBounds();
        payingDays();
        sinkers();
        linked();
        called();
        calledEdges();
        paysAtBounds();
        paysAtEdges();
        taken();
        rankedBounds();
        likeOnes();
        rich();
        CHECKS.end();
    }

    private static int bond(DuesOnRungs x, int[] a) {
        return x.bond(a[0], a[1], a[2], a[3], a[4], a[5]);
    }

    private static void bondBounds() {
        String[] names = {"KIND", "PRICE", "COUPON", "STEP", "END", "PAY"};
        int[] least = {0, 1, 0, 1, 1, 1};
        int[] greatest = {5, 99, 9, 30, 60, 60};
        for (int k = 0; k < 6; k++) {
            for (int v : Books.outside(least[k], greatest[k])) {
                DuesOnRungs x = new DuesOnRungs();
                int[] a = {2, 50, 5, 15, 30, 30};
                a[k] = v;
                due("7: BAD: " + names[k] + " " + v, bond(x, a), Books.BAD);
                due("7: no BOND came", x.count(3), 0);
            }
            for (int v : new int[] {least[k], greatest[k]}) {
                DuesOnRungs x = new DuesOnRungs();
                int[] a = {2, 50, 5, 15, 30, 30};
                a[k] = v;
                due("7: " + names[k] + " may be " + v, bond(x, a), 0);
                due("9: " + names[k] + " is told", x.told(0, k), v);
                due("7: none is HELD at first", x.told(0, 6), 0);
            }
        }
    }

    private static void bondFull() {
        DuesOnRungs x = new DuesOnRungs();
        for (int b = 0; b < 5; b++) {
            due("7: numbered as they come", x.bond(0, 1 + b, 0, 1, 1, 1), b);
        }
        due("7: FULL: a sixth", x.bond(0, 1, 0, 1, 1, 1), Books.FULL);
        due("7: BAD ahead of FULL", x.bond(0, 1, 0, 1, 1, 61), Books.BAD);
        due("7: FULL changes nothing", x.count(3), 5);
        due("7: the fifth stays", x.told(4, 1), 5);
        due("9: BAD: there is no sixth", x.told(5, 0), Books.BAD);
    }

    private static void hold() {
        DuesOnRungs x = new DuesOnRungs();
        due("8: BAD: there are no BONDS", x.hold(0, 1), Books.BAD);
        x.bond(0, 1, 0, 1, 1, 1);
        x.bond(0, 1, 0, 1, 1, 1);
        for (int b : Books.outside(0, 1)) {
            due("8: BAD: BOND " + b, x.hold(b, 1), Books.BAD);
        }
        for (int n : Books.outside(0, 99)) {
            due("8: BAD: so many are HELD: 0 .. 99, not " + n, x.hold(1, n), Books.BAD);
        }
        due("8: refused, none is HELD", x.count(4), 0);
        due("8: how many were: 0 at first", x.hold(1, 99), 0);
        due("8: how many were: the most", x.hold(1, 99), 99);
        due("8: refused, as many are HELD", x.hold(1, 100), Books.BAD);
        due("8: how many were: still the most", x.hold(1, 0), 99);
        due("8: how many were: none", x.hold(1, 1), 0);
        due("8: of the other one none", x.told(0, 6), 0);
    }

    private static void toldBounds() {
        DuesOnRungs x = new DuesOnRungs();
        due("9: BAD: there are no BONDS", x.told(0, 0), Books.BAD);
        x.bond(0, 1, 0, 1, 1, 1);
        for (int what : Books.outside(0, 8)) {
            due("9: BAD: what " + what, x.told(0, what), Books.BAD);
        }
        for (int b : Books.outside(0, 0)) {
            due("9: BAD: BOND " + b, x.told(b, 8), Books.BAD);
        }
    }

    private static void toldAtRungs() {
        DuesOnRungs x = new DuesOnRungs();
        x.bond(Books.PLAIN, 1, 0, 10, 30, 60);
        due("9: NONE: there are no RUNGS", x.told(0, 7), Books.NONE);
        due("9: at no RUNGS it PAYS 0", x.told(0, 8), 0);
        x.due(29, 1);
        due("9: NONE: it pays behind the last RUNG alone", x.told(0, 7), Books.NONE);
        due("9: what it pays behind the last RUNG doesn't count", x.told(0, 8), 0);
        x.due(29, 0);
        x.due(30, 1);
        due("9: on the last RUNG's own DAY it counts", x.told(0, 7), 0);
        due("9: so much", x.told(0, 8), 60);
        x.due(60, 1);
        due("9: a RUNG at which it PAYS nothing is not its last", x.told(0, 7), 0);
        x.due(9, 1);
        x.due(10, 1);
        due("9: nor is its first one where COUPON is 0", x.paysAt(0, 1), 0);
        due("9: the third of four", x.told(0, 7), 2);
        x.bond(Books.PLAIN, 1, 1, 10, 10, 60);
        due("9: the second of four", x.told(1, 7), 1);
    }

    private static void paysBounds() {
        DuesOnRungs x = new DuesOnRungs();
        due("10: BAD: there are no BONDS", x.pays(0, 1), Books.BAD);
        x.bond(Books.PLAIN, 1, 9, 1, 60, 60);
        for (int day : Books.outside(1, 60)) {
            due("10: BAD: DAYS are 1 .. 60, not " + day, x.pays(0, day), Books.BAD);
        }
        for (int b : Books.outside(0, 0)) {
            due("10: BAD: BOND " + b, x.pays(b, 1), Books.BAD);
        }
        due("10: on the first DAY", x.pays(0, 1), 9);
        due("10: on the last DAY", x.pays(0, 60), 69);
    }

    private static void payingDays() {
        DuesOnRungs x = new DuesOnRungs();
        x.bond(Books.STEPPED, 1, 3, 30, 10, 7);
        due("10: STEP above END: END alone, the 0-th", x.pays(0, 10), 10);
        due("10: no multiple behind END", x.pays(0, 30), 0);
        x.bond(Books.STEPPED, 1, 3, 5, 10, 7);
        due("10: the first multiple", x.pays(1, 5), 3);
        due("10: END that is a multiple is one PAYING DAY", x.pays(1, 10), 11);
        due("10: none behind it", x.pays(1, 15), 0);
        x.bond(Books.STEPPED, 1, 3, 5, 12, 7);
        due("10: the last multiple up to END", x.pays(2, 10), 4);
        due("10: not the DAY ahead of END", x.pays(2, 11), 0);
        due("10: END that is no multiple", x.pays(2, 12), 12);
        due("10: not the DAY behind END", x.pays(2, 13), 0);
        x.bond(Books.STEPPED, 1, 9, 1, 60, 60);
        due("10: k is 0 on the first", x.pays(3, 1), 9);
        due("10: k is 59 at most", x.pays(3, 60), 9 + 59 + 60);
        x.bond(Books.STEPPED, 1, 0, 7, 7, 1);
        due("10: STEP that is END", x.pays(4, 7), 1);
        DuesOnRungs y = new DuesOnRungs();
        y.bond(Books.PLAIN, 1, 0, 5, 11, 7);
        due("10: a PLAIN of COUPON 0 pays nothing ahead of END", y.pays(0, 10), 0);
        y.bond(Books.STRIP, 1, 9, 5, 10, 7);
        due("10: a STRIP pays COUPON less: nothing ahead of END", y.pays(1, 5), 0);
        due("10: a STRIP pays PAY alone at END", y.pays(1, 10), 7);
    }

    private static void sinkers() {
        DuesOnRungs x = new DuesOnRungs();
        x.bond(Books.SINKER, 1, 9, 10, 20, 1);
        due("10: half of PAY 1 (cut) is 0", x.pays(0, 10), 0);
        due("10: all of PAY 1 at END", x.pays(0, 20), 1);
        x.bond(Books.SINKER, 1, 9, 10, 20, 7);
        due("10: half of PAY 7 (cut)", x.pays(1, 10), 3);
        due("10: that much less at END", x.pays(1, 20), 4);
        x.bond(Books.SINKER, 1, 9, 10, 30, 60);
        due("10: half of PAY 60", x.pays(2, 10), 30);
        due("10: nothing on the second PAYING DAY", x.pays(2, 20), 0);
        due("10: the other half at END", x.pays(2, 30), 30);
        x.bond(Books.SINKER, 1, 9, 20, 20, 7);
        due("10: the first PAYING DAY is END: all of PAY", x.pays(3, 20), 7);
        x.bond(Books.SINKER, 1, 9, 1, 1, 1);
        due("10: PAY 1 on DAY 1", x.pays(4, 1), 1);
    }

    private static void linked() {
        DuesOnRungs x = new DuesOnRungs();
        x.bond(Books.LINKED, 1, 9, 1, 60, 60);
        due("10: RATE 0: nothing more", x.pays(0, 59), 9 + 58);
        x.rate(60, 3);
        due("10: the RATE of the DAY ahead is 0", x.pays(0, 59), 9 + 58);
        due("10: the greatest that one pays", x.pays(0, 60), 9 + 59 + 27 + 60);
        x.bond(Books.LINKED, 1, 0, 30, 60, 60);
        due("10: COUPON 0 times the RATE", x.pays(1, 60), 1 + 60);
    }

    private static void called() {
        DuesOnRungs x = new DuesOnRungs();
        x.bond(Books.CALLED, 1, 3, 5, 15, 7);
        due("10: no RATE is told: 0 on the first", x.pays(0, 5), 3 + 7);
        due("10: behind that DAY nothing", x.pays(0, 10), 0);
        due("10: behind that DAY nothing, at END neither", x.pays(0, 15), 0);
        x.rate(1, 1);
        due("10: no RATE is 0: as a STEPPED", x.pays(0, 5), 3);
        due("10: no RATE is 0: PAY at END", x.pays(0, 15), 3 + 2 + 7);
        x.rate(6, 0);
        due("10: 0 from the DAY behind the first on", x.pays(0, 5), 3);
        due("10: the second is the first whose RATE is 0", x.pays(0, 10), 3 + 1 + 7);
        due("10: nothing at END then", x.pays(0, 15), 0);
        x.rate(9, 2);
        due("10: 0 between PAYING DAYS alone is none", x.pays(0, 10), 3 + 1);
        x.rate(15, 0);
        due("10: RATE 0 at END: it is not ahead of END", x.pays(0, 15), 3 + 2 + 7);
    }

    private static void calledEdges() {
        DuesOnRungs x = new DuesOnRungs();
        x.bond(Books.CALLED, 1, 3, 10, 11, 7);
        due("10: called on the DAY just ahead of END", x.pays(0, 10), 3 + 7);
        due("10: nothing at END", x.pays(0, 11), 0);
        x.bond(Books.CALLED, 1, 3, 10, 10, 7);
        due("10: the first PAYING DAY is END: PAY once", x.pays(1, 10), 3 + 7);
        x.bond(Books.CALLED, 1, 3, 30, 10, 7);
        due("10: STEP above END: PAY once", x.pays(2, 10), 3 + 7);
        x.bond(Books.CALLED, 1, 0, 1, 60, 60);
        due("10: called on DAY 1", x.pays(3, 1), 60);
        due("10: nothing on DAY 2", x.pays(3, 2), 0);
        due("10: nothing on DAY 60", x.pays(3, 60), 0);
    }

    private static void paysAtBounds() {
        DuesOnRungs x = new DuesOnRungs();
        due("11: BAD: there are no BONDS", x.paysAt(0, 0), Books.BAD);
        x.bond(Books.PLAIN, 1, 1, 1, 60, 1);
        due("11: -12: there are no RUNGS", x.paysAt(0, 0), Books.OUTSIDE);
        x.due(10, 1);
        x.due(20, 1);
        for (int i : Books.outside(0, 1)) {
            due("11: -12: there are RUNGS 0 and 1, not " + i, x.paysAt(0, i), Books.OUTSIDE);
        }
        for (int b : Books.outside(0, 0)) {
            due("11: BAD: BOND " + b, x.paysAt(b, 0), Books.BAD);
            due("11: BAD ahead of -12: BOND " + b, x.paysAt(b, 2), Books.BAD);
        }
    }

    private static void paysAtEdges() {
        DuesOnRungs x = Books.dues(10, 1, 20, 1);
        Books.strip(x, 1, 1, 11);
        due("11: the first RUNG: from DAY 1 on", x.paysAt(0, 0), 11);
        due("11: not at the next one too", x.paysAt(0, 1), 0);
        Books.strip(x, 1, 10, 12);
        due("11: up to the RUNG's own DAY", x.paysAt(1, 0), 12);
        due("11: behind the RUNG ahead, not on its DAY", x.paysAt(1, 1), 0);
        Books.strip(x, 1, 11, 13);
        due("11: the DAY behind is the next RUNG's", x.paysAt(2, 0), 0);
        due("11: from the DAY behind the RUNG ahead on", x.paysAt(2, 1), 13);
        Books.strip(x, 1, 20, 14);
        due("11: the last RUNG's own DAY", x.paysAt(3, 1), 14);
        Books.strip(x, 1, 21, 15);
        due("11: behind the last RUNG it doesn't count", x.paysAt(4, 1), 0);
        DuesOnRungs y = Books.dues(1, 1, 60, 1);
        y.bond(Books.LINKED, 1, 9, 1, 60, 60);
        y.rate(1, 3);
        due("11: one DAY alone", y.paysAt(0, 0), 36);
        due("11: 59 DAYS, the most", y.paysAt(0, 1), 59 * 36 + 59 * 60 / 2 + 60);
    }

    private static void taken() {
        for (int kind = Books.PLAIN; kind <= Books.CALLED; kind++) {
            DuesOnRungs x = new DuesOnRungs();
            x.bond(kind, 99, 0, 1, 1, 1);
            due("12: for its own KIND " + kind, x.taken(0, kind), 99);
            due("12: all are under PLAIN", x.taken(0, Books.PLAIN), 99);
            for (int k : Books.outside(0, 5)) {
                due("12: BAD: KIND " + k, x.taken(0, k), Books.BAD);
                due("12: BAD: neither", x.taken(1, k), Books.BAD);
            }
            for (int b : Books.outside(0, 0)) {
                due("12: BAD: BOND " + b, x.taken(b, Books.PLAIN), Books.BAD);
                due("12: BAD ahead of -13: BOND " + b, x.taken(b, Books.CALLED), Books.BAD);
            }
        }
        DuesOnRungs x = new DuesOnRungs();
        x.bond(Books.SINKER, 7, 0, 1, 1, 1);
        x.bond(Books.PLAIN, 8, 0, 1, 1, 1);
        x.bond(Books.STEPPED, 9, 0, 1, 1, 1);
        due("12: two under: a SINKER is under STRIP, that under PLAIN", x.taken(0, Books.PLAIN), 7);
        due("12: a SINKER for a STRIP", x.taken(0, Books.STRIP), 7);
        due("12: -13: a SINKER is not under STEPPED", x.taken(0, Books.STEPPED), Books.OTHER_SORT);
        for (int k = Books.STRIP; k <= Books.CALLED; k++) {
            due("12: -13: a PLAIN is under none, KIND " + k, x.taken(1, k), Books.OTHER_SORT);
        }
        due("12: -13: a STEPPED is no STRIP beside it", x.taken(2, Books.STRIP), Books.OTHER_SORT);
        due("12: -13: a STEPPED is not one of those under it", x.taken(2, Books.LINKED), Books.OTHER_SORT);
    }

    private static void rankedBounds() {
        DuesOnRungs x = new DuesOnRungs();
        for (int ranking = 0; ranking <= 3; ranking++) {
            due("13: -12: there are no BONDS", x.ranked(ranking, 0), Books.OUTSIDE);
        }
        x.bond(0, 1, 0, 1, 1, 1);
        x.bond(0, 1, 0, 1, 1, 1);
        for (int ranking : Books.outside(0, 3)) {
            due("13: BAD: RANKING " + ranking, x.ranked(ranking, 0), Books.BAD);
            due("13: BAD ahead of -12: RANKING " + ranking, x.ranked(ranking, 2), Books.BAD);
        }
        for (int i : Books.outside(0, 1)) {
            due("13: -12: there are two BONDS, not " + i, x.ranked(0, i), Books.OUTSIDE);
        }
    }

    private static void order(String what, DuesOnRungs x, int ranking, int... want) {
        for (int i = 0; i < want.length; i++) {
            due("13: " + what + ", RANKING " + ranking + ", " + i, x.ranked(ranking, i), want[i]);
        }
    }

    private static void likeOnes() {
        DuesOnRungs x = Books.dues(10, 1);
        for (int b = 0; b < 5; b++) {
            x.bond(Books.PLAIN, 10, 5, 10, 10, 5);
        }
        for (int ranking = 0; ranking <= 3; ranking++) {
            order("of like ones by number", x, ranking, 0, 1, 2, 3, 4);
        }
        DuesOnRungs y = Books.dues(60, 1);
        y.bond(Books.STRIP, 20, 0, 10, 10, 20);
        y.bond(Books.STRIP, 10, 9, 10, 20, 30);
        y.bond(Books.PLAIN, 20, 9, 10, 20, 11);
        y.bond(Books.STRIP, 10, 0, 10, 10, 10);
        order("like ones ahead and behind", y, 0, 1, 3, 0, 2);
        order("10/30, 20/20, 20/29, 10/10", y, 1, 1, 2, 0, 3);
        order("the greatest END first", y, 2, 1, 2, 0, 3);
        order("the greatest COUPON first, though a STRIP pays none", y, 3, 1, 2, 0, 3);
        DuesOnRungs z = Books.dues(60, 1);
        z.bond(Books.PLAIN, 1, 0, 10, 60, 60);
        z.bond(Books.PLAIN, 99, 9, 10, 1, 1);
        z.bond(Books.PLAIN, 50, 5, 10, 59, 1);
        order("the least PRICE first", z, 0, 0, 2, 1);
        order("1/60, 99/10, 50/31", z, 1, 0, 2, 1);
        order("END 60, 59, 1", z, 2, 0, 2, 1);
        order("COUPON 9, 5, 0", z, 3, 1, 2, 0);
    }

    private static void rich() {
        DuesOnRungs x = Books.dues(20, 1);
        Books.strip(x, 1, 21, 60);
        Books.strip(x, 98, 20, 59);
        Books.strip(x, 1, 30, 60);
        Books.strip(x, 93, 20, 56);
        Books.strip(x, 99, 20, 1);
        order("exactly: 93/56 is less than 98/59; who PAYS nothing last, by number", x, 1, 3, 1, 4, 0, 2);
        DuesOnRungs y = Books.dues(20, 1);
        Books.strip(y, 50, 20, 25);
        Books.strip(y, 2, 20, 1);
        Books.strip(y, 99, 20, 50);
        order("2/1 is like 50/25, and 99/50 less", y, 1, 2, 0, 1);
        DuesOnRungs z = Books.dues(20, 1);
        Books.strip(z, 99, 20, 60);
        Books.strip(z, 1, 20, 1);
        Books.strip(z, 1, 21, 1);
        Books.strip(z, 1, 20, 2);
        order("who PAYS 1 is not one who PAYS nothing: 1/2, 1/1, 99/60", z, 1, 3, 1, 0, 2);
        y.due(20, 0);
        order("no RUNGS: nobody PAYS anything, by number", y, 1, 0, 1, 2);
    }
}
