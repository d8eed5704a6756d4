import java.lang.management.ManagementFactory;

/** All calls of a run live in one room: calls make no objects at all, and a new object is small. */
public final class RoomTest {
    private static final int OBJECTS = 50, ROUNDS = 100;
    private static final long MOST_BYTES_OF_AN_OBJECT = 40_000;

    public static void main(String[] args) {
        Checks checks = new Checks("RoomTest");
        var threads = (com.sun.management.ThreadMXBean) ManagementFactory.getThreadMXBean();
        long id = Thread.currentThread().getId();
        DuesOnRungs x = new DuesOnRungs();
        allCalls(x);
        long ahead = threads.getThreadAllocatedBytes(id);
        for (int k = 0; k < ROUNDS; k++) {
            allCalls(x);
        }
        // The asking itself makes some bytes; an object a round would be 16 or more each.
        checks.due("bytes made by a round of calls, above 15",
            Math.max(15, (threads.getThreadAllocatedBytes(id) - ahead) / ROUNDS), 15);
        ahead = threads.getThreadAllocatedBytes(id);
        for (int k = 0; k < OBJECTS; k++) {
            x = new DuesOnRungs();
        }
        long one = (threads.getThreadAllocatedBytes(id) - ahead) / OBJECTS;
        checks.due("a new object has " + one + " bytes: few enough", one <= MOST_BYTES_OF_AN_OBJECT ? 1 : 0, 1);
        checks.end();
    }

    private static void allCalls(DuesOnRungs x) {
        for (int k = 1; k <= 5; k++) {
            x.due(10 * k, 11 * k);
            x.rate(9 * k, k % 4);
            x.limit(10 * k, 20);
            x.bond(k, 10 * k, k, k, 60 - k, 30);
            x.hold(k - 1, k);
        }
        x.image();
        x.back();
        for (int what = 0; what <= 23; what++) {
            x.rung(what, what % 4);
            x.day(what, 1);
            x.told(0, what);
            x.pays(0, what);
            x.paysAt(0, what);
            x.taken(0, what);
            x.ranked(what % 4, 0);
            x.worth(-1, what);
            x.length(-2, what, 1);
            x.surplus(what);
            x.proof(0, what, 0);
            x.amount(what - 1, 0);
            x.ladder(what % 4, what);
            x.replay(-1, what);
            x.worst(what);
            x.drawn(what);
            x.chance(what, 20, 0);
            x.count(what);
        }
        x.due(10, 12);
        x.least();
        x.film(1);
        x.tells(1, 1, 0);
        x.sheet(2, 1, 40);
        x.put(2, 0, 9);
        x.copy(2, 0, 2, 1, 9);
        x.load(2, 1, 0, 5);
    }
}
