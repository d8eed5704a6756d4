/** What the document says at the edges of promises 17 to 19; a check for each such word. */
public final class BoundsOfLeastTest {
    private static final Checks CHECKS = new Checks("BoundsOfLeastTest");
    private static final int COST = -1;
    private static final int CARRY = 0, PRICE_OF_CARRY = 1, PRICE_OF_ROOM = 2, PROOF = 3;

    private static void due(String what, long got, long want) {
        CHECKS.due(what, got, want);
    }

    public static void main(String[] args) {
        nothing();
        noWay();
        shareOfNothing();
        carryOfNothing();
        room();
        roomOfNothing();
        lastRoom();
        mostRooms();
        leastNumberLeaves();
        leastNumberEnters();
        great();
        greatProof();
        amountBounds();
        proofBounds();
        noPrice();
        CHECKS.end();
    }

    private static void amount(String what, DuesOnRungs x, int bond, long above, long below) {
        due("18: " + what + ", above", x.amount(bond, 0), above);
        due("18: " + what + ", below", x.amount(bond, 1), below);
    }

    private static void proof(String words, DuesOnRungs x, int i, int what, long above, long below) {
        due("19: " + words + ", above", x.proof(i, what, 0), above);
        due("19: " + words + ", below", x.proof(i, what, 1), below);
    }

    private static void nothing() {
        DuesOnRungs x = new DuesOnRungs();
        due("17: no RUNGS, no BONDS: none LEAVES", x.least(), 0);
        amount("COST of nothing: 0 by 1", x, COST, 0, 1);
        Books.strip(x, 99, 10, 1);
        x.limit(10, 0);
        due("17: no RUNGS: none LEAVES", x.least(), 0);
        amount("an AMOUNT that has no ROW: 0", x, 0, 0, 1);
        amount("COST of no AMOUNTS", x, COST, 0, 1);
    }

    private static void noWay() {
        DuesOnRungs x = Books.dues(10, 1);
        due("17: NO_WAY: no BONDS", x.least(), Books.NO_WAY);
        due("18: NO: NO_WAY, COST above", x.amount(COST, 0), Books.NO);
        due("18: NO: NO_WAY, COST below", x.amount(COST, 1), Books.NO);
        Books.strip(x, 1, 11, 60);
        due("17: NO_WAY: one that pays behind the last RUNG alone", x.least(), Books.NO_WAY);
        due("18: NO: NO_WAY, an AMOUNT", x.amount(0, 0), Books.NO);
        for (int what = CARRY; what <= PROOF; what++) {
            proof("NO: NO_WAY, what " + what, x, 0, what, Books.NO, Books.NO);
        }
        x.due(9, 1);
        x.due(11, 1);
        due("17: NO_WAY: what comes late is not carried back", x.least(), Books.NO_WAY);
        Books.strip(x, 1, 9, 60);
        due("17: there is a way by one that pays ahead", x.least(), 3);
    }

    /** A SHARE of 0 is not above 0: bond 1 is cheaper, but pays nothing at RUNG 0. */
    private static void shareOfNothing() {
        DuesOnRungs x = Books.dues(10, 10, 20, 10);
        Books.strip(x, 99, 10, 10);
        Books.strip(x, 1, 20, 10);
        due("17: each for its own", x.least(), 2);
        amount("the one whose SHARE is above 0 ENTERS", x, 0, 1, 1);
        amount("the cheap one where it pays", x, 1, 1, 1);
        amount("COST", x, COST, 100, 1);
    }

    private static void carryOfNothing() {
        DuesOnRungs x = Books.dues(10, 10);
        Books.strip(x, 7, 10, 10);
        due("17: BARE is below 0 once", x.least(), 1);
        amount("just so many", x, 0, 1, 1);
        proof("CARRY 0 is not below 0", x, 0, CARRY, 0, 1);
        DuesOnRungs y = Books.dues(10, 10, 20, 5);
        y.bond(Books.PLAIN, 7, 5, 10, 20, 5);
        due("17: BARE 0 does not LEAVE", y.least(), 1);
        amount("two of them for RUNG 0", y, 0, 2, 1);
        proof("RUNG 1 has 15 more than it needs", y, 1, CARRY, 15, 1);
        y.due(20, 20);
        due("17: BARE of CARRY 1 becomes just 0", y.least(), 1);
        proof("nothing is left there", y, 1, CARRY, 0, 1);
        y.due(20, 21);
        due("17: one more is due: CARRY 1 LEAVES too", y.least(), 2);
        amount("21 by 10, carried over: 5a - 10 + 10a = 21", y, 0, 31, 15);
    }

    private static void room() {
        DuesOnRungs x = Books.dues(10, 10, 20, 10);
        Books.strip(x, 7, 10, 10);
        x.limit(10, 10);
        due("17: CARRY that is just the LIMIT", x.least(), 2);
        proof("CARRY", x, 0, CARRY, 10, 1);
        x.limit(10, 9);
        due("17: NO_WAY: CARRY would be 1 above the LIMIT", x.least(), Books.NO_WAY);
        x.limit(10, -1);
        x.limit(9, 0);
        x.limit(11, 0);
        due("17: LIMITS of DAYS without a RUNG don't matter", x.least(), 2);
    }

    /** LIMIT 0 at RUNG 0: nothing may be carried over, so each is met by what pays there. */
    private static void roomOfNothing() {
        DuesOnRungs x = Books.dues(10, 10, 20, 10);
        Books.strip(x, 1, 10, 10);
        Books.strip(x, 99, 20, 10);
        amount("without a LIMIT the cheap one alone", x, COST, 2, 1);
        x.limit(10, 0);
        due("17: three LEAVE", x.least(), 3);
        amount("LIMIT 0 lets nothing through", x, COST, 100, 1);
        proof("CARRY is nothing", x, 0, CARRY, 0, 1);
        proof("PRICE of CARRY 0 is 0: a ROW tells it", x, 0, PRICE_OF_CARRY, 0, 1);
        proof("PRICE of ROOM 0", x, 0, PRICE_OF_ROOM, 49, 5);
        proof("PROOF of RUNG 0: 99/10 - 98/10", x, 0, PROOF, 1, 10);
    }

    private static void lastRoom() {
        DuesOnRungs x = Books.dues(10, 10, 20, 1);
        x.bond(Books.SINKER, 7, 0, 10, 20, 60);
        x.limit(20, 0);
        due("17: the LIMIT of the last RUNG doesn't matter", x.least(), 1);
        proof("CARRY of the last RUNG above its LIMIT", x, 1, CARRY, 9, 1);
        proof("the last RUNG has no ROOM: 0 by 1", x, 1, PRICE_OF_ROOM, 0, 1);
        x.due(30, 1);
        due("17: it is no more the last: NO_WAY", x.least(), Books.NO_WAY);
        x.limit(20, 9);
        due("17: 9 may be carried", x.least(), 1);
        x.limit(20, 8);
        due("17: 8 are not enough", x.least(), Books.NO_WAY);
    }

    /** Five RUNGS, of which four have a ROOM: only what RUNG 3 lets through counts for RUNG 4. */
    private static void mostRooms() {
        DuesOnRungs x = Books.dues(2, 10, 4, 10, 6, 10, 8, 10, 10, 10);
        for (int day = 2; day <= 10; day += 2) {
            x.limit(day, 99);
        }
        Books.strip(x, 1, 2, 10);
        Books.strip(x, 3, 10, 10);
        amount("LIMITS that let all through: the first one alone", x, COST, 5, 1);
        x.limit(8, 4);
        amount("LIMIT 4 of RUNG 3: 44/10 of the first one", x, 0, 22, 5);
        amount("the rest of the other one", x, 1, 3, 5);
        proof("PRICE of ROOM 3", x, 3, PRICE_OF_ROOM, 1, 5);
        proof("PROOF of RUNG 3", x, 3, PROOF, 1, 10);
        proof("CARRY 3 is its LIMIT", x, 3, CARRY, 4, 1);
        x.limit(8, 99);
        x.limit(2, 39);
        proof("CARRY 0 is its LIMIT", x, 0, CARRY, 39, 1);
        proof("PRICE of ROOM 0", x, 0, PRICE_OF_ROOM, 1, 5);
        proof("PRICE of ROOM 3 is 0: a ROW tells it", x, 3, PRICE_OF_ROOM, 0, 1);
        x.limit(10, 0);
        proof("LIMIT 0 of RUNG 4, the last, doesn't matter", x, 0, CARRY, 39, 1);
    }

    /** Were CARRY 1 to LEAVE first, CARRY 0 would be above 0 at once and one were enough. */
    private static void leastNumberLeaves() {
        DuesOnRungs x = Books.dues(10, 10, 20, 10, 30, 10);
        Books.strip(x, 7, 10, 10);
        due("17: CARRY 0 LEAVES, CARRY 1, CARRY 2", x.least(), 3);
        amount("COST", x, COST, 21, 1);
    }

    /** 7/10, 14/20 and 21/30 are like ones. */
    private static void leastNumberEnters() {
        DuesOnRungs x = Books.dues(10, 60);
        Books.strip(x, 8, 10, 10);
        Books.strip(x, 21, 10, 30);
        Books.strip(x, 7, 10, 10);
        Books.strip(x, 14, 10, 20);
        amount("not the one whose ratio is more", x, 0, 0, 1);
        amount("of like ones that of the least number", x, 1, 2, 1);
        amount("not another like one", x, 2, 0, 1);
        amount("not the last one", x, 3, 0, 1);
    }

    /** Found by random search; PlainModel, by BigIntegers, ends so too. */
    private static void great() {
        DuesOnRungs x = Books.dues(8, 13, 22, 52, 31, 98, 39, 62, 44, 41);
        x.rate(20, 3);
        x.limit(8, 42);
        x.limit(22, 3);
        x.bond(0, 11, 4, 1, 11, 6);
        x.bond(1, 1, 6, 6, 6, 46);
        x.bond(0, 30, 9, 3, 27, 44);
        x.bond(4, 57, 2, 5, 46, 38);
        x.bond(2, 55, 4, 4, 7, 47);
        due("17: GREAT", x.least(), Books.GREAT);
        due("17: GREAT again", x.least(), Books.GREAT);
        for (int part = 0; part <= 1; part++) {
            for (int bond = COST; bond < 5; bond++) {
                due("18: NO: GREAT, " + bond, x.amount(bond, part), Books.NO);
            }
            for (int i = 0; i < 5; i++) {
                for (int what = CARRY; what <= PROOF; what++) {
                    due("19: NO: GREAT, " + what + " of " + i, x.proof(i, what, part), Books.NO);
                }
            }
        }
        x.limit(8, -1);
        x.limit(22, -1);
        due("17: it is not GREAT for ever", x.least() >= 0 ? 1 : 0, 1);
    }

    /** LEAST ends well, but PROOF of RUNG 0 is on its way no long; found by random search. */
    private static void greatProof() {
        DuesOnRungs x = Books.dues(8, 66, 37, 81, 39, 76, 42, 74, 55, 61);
        int[][] rates = {{6, 3}, {1, 0}, {55, 1}, {9, 2}, {26, 1}, {54, 1}};
        for (int[] rate : rates) {
            x.rate(rate[0], rate[1]);
        }
        x.limit(37, 78);
        x.bond(1, 12, 2, 2, 56, 20);
        x.bond(3, 65, 1, 3, 38, 58);
        x.bond(2, 93, 0, 1, 60, 57);
        x.bond(5, 66, 3, 1, 31, 24);
        x.bond(4, 82, 8, 1, 38, 24);
        due("17: three LEAVE", x.least(), 3);
        amount("COST is not GREAT", x, COST, 15530917410L, 131759267);
        proof("NO: PROOF is GREAT", x, 0, PROOF, Books.NO, Books.NO);
        proof("PRICE of its CARRY is not", x, 0, PRICE_OF_CARRY, 4640136535L, 2108148272L);
        proof("nor its CARRY", x, 0, CARRY, 0, 1);
        proof("CARRY 1 is just its LIMIT", x, 1, CARRY, 78, 1);
        proof("PRICE of ROOM 1", x, 1, PRICE_OF_ROOM, 618878951, 1054074136);
        proof("PROOF of RUNG 1 is below 0", x, 1, PROOF, -110388163, 527037068);
        proof("PROOF of the last RUNG", x, 4, PROOF, 25478568, 131759267);
        due("17: LEAST ends as ever", x.least(), 3);
    }

    private static void amountBounds() {
        DuesOnRungs x = Books.dues(10, 10);
        due("18: NO: BOND 0 of none", new DuesOnRungs().amount(0, 0), Books.NO);
        Books.strip(x, 7, 10, 10);
        for (int bond : Books.outside(-1, 0)) {
            due("18: NO: BOND " + bond, x.amount(bond, 0), Books.NO);
            due("18: NO: BOND " + bond + ", below", x.amount(bond, 1), Books.NO);
        }
        due("18: NO: the number of a CARRY is no BOND's", x.amount(10, 0), Books.NO);
        due("18: NO: the number of a ROOM is no BOND's", x.amount(20, 0), Books.NO);
        for (int part : Books.outside(0, 1)) {
            due("18: NO: part " + part, x.amount(0, part), Books.NO);
            due("18: NO: part " + part + " of COST", x.amount(COST, part), Books.NO);
        }
    }

    private static void proofBounds() {
        DuesOnRungs x = Books.dues(10, 10, 20, 10);
        Books.strip(x, 7, 10, 10);
        for (int i : Books.outside(0, 1)) {
            for (int what = CARRY; what <= PROOF; what++) {
                due("19: NO: no such RUNG " + i + ", what " + what, x.proof(i, what, 1), Books.NO);
            }
        }
        for (int what : Books.outside(0, 3)) {
            due("19: NO: what " + what, x.proof(0, what, 0), Books.NO);
        }
        for (int part : Books.outside(0, 1)) {
            for (int what = CARRY; what <= PROOF; what++) {
                due("19: NO: part " + part + ", what " + what, x.proof(0, what, part), Books.NO);
            }
        }
        due("19: NO: there are no RUNGS", new DuesOnRungs().proof(0, CARRY, 0), Books.NO);
    }

    private static void noPrice() {
        DuesOnRungs x = Books.dues(10, 10, 20, 10);
        Books.strip(x, 7, 10, 10);
        x.limit(20, 99);
        proof("a RUNG without a LIMIT has no ROOM: 0 by 1", x, 0, PRICE_OF_ROOM, 0, 1);
        x.limit(10, 99);
        proof("a ROOM that a ROW tells: 0", x, 0, PRICE_OF_ROOM, 0, 1);
        proof("a CARRY that a ROW tells: 0", x, 0, PRICE_OF_CARRY, 0, 1);
        proof("PROOF of the last RUNG: its own PRICE alone", x, 1, PROOF, 7, 10);
        proof("PRICE of the last CARRY", x, 1, PRICE_OF_CARRY, 7, 10);
        x.rate(20, 3);
        proof("the next one's FACTOR, not its own", x, 0, PROOF, 7, 10);
        x.rate(10, 3);
        x.rate(20, 0);
        proof("its own FACTOR does not matter", x, 0, PROOF, 7, 10);
    }
}
