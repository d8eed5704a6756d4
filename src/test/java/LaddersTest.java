/** Promise 20: ladder. */
public final class LaddersTest {
    private static final Checks CHECKS = new Checks("LaddersTest");
    private static final int CHEAP = 0, RICH = 1, LONG = 2, STEADY = 3, COST = 10, LACKING = 11;

    private static void due(String what, long got, long want) {
        CHECKS.due("20: " + what, got, want);
    }

    private static void ladder(DuesOnRungs x, int ranking, int cost, int lacking, int... bought) {
        for (int b = 0; b < bought.length; b++) {
            due("ranking " + ranking + ", bond " + b, x.ladder(ranking, b), bought[b]);
        }
        due("ranking " + ranking + ", cost", x.ladder(ranking, COST), cost);
        due("ranking " + ranking + ", lacking", x.ladder(ranking, LACKING), lacking);
    }

    public static void main(String[] args) {
        nothing();
        ordinary();
        lacking();
        wrong();
        CHECKS.end();
    }

    private static void nothing() {
        DuesOnRungs x = new DuesOnRungs();
        ladder(x, CHEAP, 0, 0);
        x.bond(0, 1, 1, 1, 1, 1);
        ladder(x, CHEAP, 0, 0, 0);
    }

    /** Bond 0 pays 2 and 7, bond 1 nothing and 6, bond 2 pays 4 at rung 0 and ends there. */
    private static DuesOnRungs three() {
        DuesOnRungs x = new DuesOnRungs();
        x.due(10, 10);
        x.due(20, 20);
        x.bond(0, 9, 2, 10, 20, 5);
        x.bond(1, 5, 0, 10, 20, 6);
        x.bond(0, 4, 1, 10, 10, 3);
        return x;
    }

    private static void ordinary() {
        DuesOnRungs x = three();
        // 20 by 6 is 4 times 5; 10 by 4 is 3 times 4.
        ladder(x, CHEAP, 32, 0, 0, 4, 3);
        // By price over payings: 5/6, 9/9, 4/4.
        ladder(x, RICH, 32, 0, 0, 4, 3);
        // 20 by 7 is 3 times 9, which pays 6 at rung 0: 4 are left.
        ladder(x, LONG, 31, 0, 3, 0, 1);
        ladder(x, STEADY, 31, 0, 3, 0, 1);
        x.due(20, 19);
        ladder(x, CHEAP, 32, 0, 0, 4, 3);
        x.due(20, 18);
        ladder(x, CHEAP, 27, 0, 0, 3, 3);
        x.due(20, 20);
        x.due(10, 7);
        ladder(x, STEADY, 31, 0, 3, 0, 1);
        x.due(10, 6);
        ladder(x, STEADY, 27, 0, 3, 0, 0);
        DuesOnRungs y = new DuesOnRungs();
        y.due(10, 7);
        y.bond(1, 2, 0, 30, 10, 1);
        ladder(y, CHEAP, 14, 0, 7);
        x.due(10, 5);
        ladder(x, STEADY, 27, 0, 3, 0, 0);
        x.hold(0, 99);
        x.limit(10, 0);
        ladder(x, STEADY, 27, 0, 3, 0, 0);
    }

    private static void lacking() {
        DuesOnRungs x = three();
        x.due(5, 3);
        ladder(x, CHEAP, 32, 3, 0, 4, 3);
        x.due(60, 99);
        ladder(x, CHEAP, 32, 102, 0, 4, 3);
        x.due(20, 0);
        // What ends on day 20 has day 60 for its last rung: 99 by 6 is 17.
        ladder(x, CHEAP, 17 * 5 + 3 * 4, 3, 0, 17, 3);
    }

    private static void wrong() {
        DuesOnRungs x = three();
        due("ranking -1", x.ladder(-1, COST), DuesOnRungs.BAD);
        due("ranking 4", x.ladder(4, COST), DuesOnRungs.BAD);
        for (int what : new int[] {-1, 3, 9, 12, Integer.MIN_VALUE, Integer.MAX_VALUE}) {
            due("what " + what, x.ladder(CHEAP, what), DuesOnRungs.BAD);
        }
    }
}
