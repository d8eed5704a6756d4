/** Promises 17 to 19: least, amount, proof. */
public final class LeastTest {
    private static final Checks CHECKS = new Checks("LeastTest");
    private static final int COST = -1;
    private static final int CARRY = 0, PRICE_OF_CARRY = 1, PRICE_OF_ROOM = 2, PROOF = 3;
    private static final int STRIP = 1;

    private static void due(String what, long got, long want) {
        CHECKS.due(what, got, want);
    }

    private static void amount(DuesOnRungs x, int bond, long above, long below) {
        due("18: amount of " + bond + ", above", x.amount(bond, 0), above);
        due("18: amount of " + bond + ", below", x.amount(bond, 1), below);
    }

    private static void proof(DuesOnRungs x, int i, int what, long above, long below) {
        due("19: " + what + " of rung " + i + ", above", x.proof(i, what, 0), above);
        due("19: " + what + " of rung " + i + ", below", x.proof(i, what, 1), below);
    }

    /** Pays on one day alone. */
    private static void strip(DuesOnRungs x, int price, int day, int pay) {
        x.bond(STRIP, price, 0, 30, day, pay);
    }

    public static void main(String[] args) {
        nothing();
        oneRung();
        likeOnes();
        carried();
        room();
        roomOfRungOne();
        lesserRatio();
        askedAnew();
        grown();
        noWay();
        great();
        wrong();
        CHECKS.end();
    }

    private static void nothing() {
        DuesOnRungs x = new DuesOnRungs();
        due("17: nothing is due", x.least(), 0);
        amount(x, COST, 0, 1);
        x.bond(0, 5, 1, 1, 1, 1);
        amount(x, 0, 0, 1);
        due("19: no rung", x.proof(0, CARRY, 0), DuesOnRungs.NO);
    }

    /** 30 are due, one pays 20 and costs 50: 3/2 of it, 75; a due's number costs 5/2. */
    private static void oneRung() {
        DuesOnRungs x = new DuesOnRungs();
        x.due(10, 30);
        strip(x, 50, 10, 20);
        due("17: one left", x.least(), 1);
        amount(x, COST, 75, 1);
        amount(x, 0, 3, 2);
        proof(x, 0, CARRY, 0, 1);
        proof(x, 0, PRICE_OF_CARRY, 5, 2);
        proof(x, 0, PRICE_OF_ROOM, 0, 1);
        proof(x, 0, PROOF, 5, 2);
        x.due(10, 40);
        amount(x, COST, 100, 1);
        x.due(9, 1);
        due("17: at day 9 nothing is paid", x.least(), DuesOnRungs.NO_WAY);
        x.due(9, 0);
        amount(x, COST, 100, 1);
    }

    /** 50 by 20 and 25 by 10 are like ones: that of the least number enters. */
    private static void likeOnes() {
        DuesOnRungs x = new DuesOnRungs();
        x.due(10, 30);
        strip(x, 99, 10, 20);
        strip(x, 25, 10, 10);
        strip(x, 50, 10, 20);
        due("17: one left", x.least(), 1);
        amount(x, 0, 0, 1);
        amount(x, 1, 3, 1);
        amount(x, 2, 0, 1);
    }

    /** What pays 10 at rung 0 alone is bought twice, if the limit there lets 10 through. */
    private static void carried() {
        DuesOnRungs x = new DuesOnRungs();
        x.due(10, 10);
        x.due(20, 10);
        strip(x, 7, 10, 10);
        x.limit(20, 0);
        for (int limit = 10; limit >= -1; limit -= 11) {
            x.limit(10, limit);
            due("17: two left", x.least(), 2);
            amount(x, COST, 14, 1);
            proof(x, 0, CARRY, 10, 1);
            proof(x, 0, PRICE_OF_CARRY, 0, 1);
            proof(x, 0, PROOF, 7, 10);
            proof(x, 1, PROOF, 7, 10);
        }
        x.limit(10, 9);
        due("17: no room", x.least(), DuesOnRungs.NO_WAY);
        strip(x, 1, 20, 60);
        x.due(20, 5);
        due("17: a limit of the last doesn't matter", x.least(), 2);
    }

    /** 10 for 10 at rung 0, 30 for 10 at rung 1, and only 4 may be carried over: 14 and 18. */
    private static void room() {
        DuesOnRungs x = new DuesOnRungs();
        x.due(10, 10);
        x.due(20, 10);
        x.limit(10, 4);
        strip(x, 10, 10, 10);
        strip(x, 30, 20, 10);
        due("17: three left", x.least(), 3);
        amount(x, COST, 32, 1);
        amount(x, 0, 7, 5);
        amount(x, 1, 3, 5);
        proof(x, 0, CARRY, 4, 1);
        proof(x, 0, PRICE_OF_CARRY, 0, 1);
        proof(x, 0, PRICE_OF_ROOM, 2, 1);
        proof(x, 0, PROOF, 1, 1);
        proof(x, 1, CARRY, 0, 1);
        proof(x, 1, PRICE_OF_CARRY, 3, 1);
        proof(x, 1, PROOF, 3, 1);
    }

    /** What is carried to rung 1 grows by 7/4: 10 + 10 / (7/4) are needed at rung 0. */
    private static void grown() {
        DuesOnRungs x = new DuesOnRungs();
        x.due(10, 10);
        x.due(20, 10);
        x.rate(20, 3);
        strip(x, 7, 10, 10);
        due("17: two left", x.least(), 2);
        amount(x, 0, 11, 7);
        amount(x, COST, 11, 1);
        proof(x, 0, CARRY, 40, 7);
        proof(x, 1, PROOF, 2, 5);
        proof(x, 0, PROOF, 7, 10);
    }

    private static void noWay() {
        DuesOnRungs x = new DuesOnRungs();
        x.due(10, 10);
        due("17: no bonds", x.least(), DuesOnRungs.NO_WAY);
        due("18: no cost", x.amount(COST, 0), DuesOnRungs.NO);
        for (int what = CARRY; what <= PROOF; what++) {
            due("19: nothing is proved", x.proof(0, what, 1), DuesOnRungs.NO);
        }
    }

    /** Rung 1 has the limit: 1 of bond 0 for rung 0, the rest as in room(). */
    private static void roomOfRungOne() {
        DuesOnRungs x = new DuesOnRungs();
        x.due(10, 10);
        x.due(20, 10);
        x.due(30, 10);
        x.limit(20, 4);
        strip(x, 40, 10, 10);
        strip(x, 10, 20, 10);
        strip(x, 30, 30, 10);
        proof(x, 1, PRICE_OF_ROOM, 2, 1);
        proof(x, 0, PRICE_OF_ROOM, 0, 1);
        proof(x, 0, CARRY, 0, 1);
        proof(x, 1, CARRY, 4, 1);
        proof(x, 0, PRICE_OF_CARRY, 3, 1);
        proof(x, 0, PROOF, 4, 1);
        proof(x, 1, PROOF, 1, 1);
        proof(x, 2, PROOF, 3, 1);
        amount(x, COST, 72, 1);
    }

    /** Of two that pay on the same day that is taken which costs less for what it pays. */
    private static void lesserRatio() {
        for (int k = 0; k < 60 * 60; k++) {
            int price = 1 + k * 7 % 99;
            int pay = 1 + k % 60;
            int otherPrice = 1 + k * 11 % 99;
            int otherPay = 1 + k / 60;
            DuesOnRungs x = new DuesOnRungs();
            x.due(10, 1);
            strip(x, price, 10, pay);
            strip(x, otherPrice, 10, otherPay);
            int taken = price * otherPay <= otherPrice * pay ? 0 : 1;
            due("18: the lesser of " + price + "/" + pay + " and " + otherPrice + "/" + otherPay,
                x.amount(taken, 1), taken == 0 ? pay : otherPay);
            due("18: none of the other", x.amount(1 - taken, 0), 0);
        }
    }

    /** What was asked before a change says nothing of what is asked behind it. */
    private static void askedAnew() {
        DuesOnRungs x = new DuesOnRungs();
        x.image();
        x.due(10, 30);
        strip(x, 50, 10, 20);
        amount(x, COST, 75, 1);
        strip(x, 20, 10, 20);
        amount(x, COST, 30, 1);
        x.due(20, 5);
        proof(x, 1, PROOF, 1, 1);
        x.rate(20, 1);
        proof(x, 1, PROOF, 4, 5);
        x.limit(10, 3);
        due("17: no room", x.least(), DuesOnRungs.NO_WAY);
        x.sheet(0, 1, 2);
        x.put(0, 0, 20);
        x.load(0, 1, 0, 1);
        due("17: the due was taken", x.least(), 1);
        x.back();
        due("19: no rung", x.proof(0, PROOF, 0), DuesOnRungs.NO);
        due("17: nothing", x.least(), 0);
    }

    /** Found by random search; PlainModel, by BigIntegers, ends so too. */
    private static void great() {
        int[][][] books = {
            {{8, 13, 22, 52, 31, 98, 39, 62, 44, 41}, {20, 3}, {8, 42, 22, 3},
                {0, 11, 4, 1, 11, 6, 1, 1, 6, 6, 6, 46, 0, 30, 9, 3, 27, 44, 4, 57, 2, 5, 46, 38, 2, 55, 4, 4, 7, 47}},
            {{13, 17, 28, 30, 23, 37, 41, 38, 34, 74}, {9, 3, 13, 0, 18, 3, 21, 3, 50, 1}, {41, 25, 28, 50},
                {4, 96, 6, 1, 50, 18, 4, 74, 9, 5, 8, 53, 2, 59, 3, 1, 43, 40, 4, 70, 8, 2, 22, 39, 4, 5, 0, 3, 26, 52}},
            {{7, 84, 53, 92, 39, 63, 46, 30, 57, 35}, {17, 2, 7, 0, 26, 3, 8, 2}, {57, 2, 7, 43, 39, 19, 46, 21},
                {4, 46, 0, 1, 8, 40, 1, 53, 0, 2, 3, 5, 1, 97, 9, 2, 51, 35, 4, 95, 5, 2, 55, 20, 3, 92, 9, 6, 55, 26}},
        };
        for (int[][] book : books) {
            greatBook(book[0], book[1], book[2], book[3]);
        }
    }

    private static void greatBook(int[] dues, int[] rates, int[] limits, int[] bonds) {
        DuesOnRungs x = new DuesOnRungs();
        for (int k = 0; k < dues.length; k += 2) {
            x.due(dues[k], dues[k + 1]);
        }
        for (int k = 0; k < rates.length; k += 2) {
            x.rate(rates[k], rates[k + 1]);
        }
        for (int k = 0; k < limits.length; k += 2) {
            x.limit(limits[k], limits[k + 1]);
        }
        for (int k = 0; k < bonds.length; k += 6) {
            x.bond(bonds[k], bonds[k + 1], bonds[k + 2], bonds[k + 3], bonds[k + 4], bonds[k + 5]);
        }
        due("17: GREAT", x.least(), DuesOnRungs.GREAT);
        due("18: GREAT", x.amount(COST, 0), DuesOnRungs.NO);
        due("18: GREAT", x.amount(0, 1), DuesOnRungs.NO);
        for (int what = CARRY; what <= PROOF; what++) {
            due("19: GREAT", x.proof(0, what, 0), DuesOnRungs.NO);
        }
    }

    private static void wrong() {
        DuesOnRungs x = new DuesOnRungs();
        x.due(10, 30);
        strip(x, 50, 10, 20);
        for (int bond : new int[] {-2, 1, Integer.MIN_VALUE, Integer.MAX_VALUE}) {
            due("18: bond " + bond, x.amount(bond, 0), DuesOnRungs.NO);
        }
        for (int i : new int[] {-1, 1, Integer.MIN_VALUE, Integer.MAX_VALUE}) {
            due("19: rung " + i, x.proof(i, CARRY, 0), DuesOnRungs.NO);
        }
        due("18: part -1", x.amount(0, -1), DuesOnRungs.NO);
        due("18: part 2", x.amount(0, 2), DuesOnRungs.NO);
        due("19: part -1", x.proof(0, 0, -1), DuesOnRungs.NO);
        due("19: part 2", x.proof(0, 0, 2), DuesOnRungs.NO);
        due("19: what -1", x.proof(0, -1, 0), DuesOnRungs.NO);
        due("19: what 4", x.proof(0, 4, 0), DuesOnRungs.NO);
    }
}
