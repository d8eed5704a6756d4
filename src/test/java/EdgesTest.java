import java.util.function.ToLongFunction;

/**
 * Every call with every choice of numbers at edges, of objects that are empty, sparse and full,
 * held against PlainModel; and what the machine throws would end the test.
 */
public final class EdgesTest {
    private static final Checks CHECKS = new Checks("EdgesTest");
    private static final int[] EDGES = {Integer.MIN_VALUE, -2, -1, 0, 1, 2, 3, 4, 5, 6, 9, 10, 14, 15, 20, 23, 24, 39, 40, 41,
        59, 60, 61, 99, 100, Integer.MAX_VALUE};
    private static final int[] FEW = {Integer.MIN_VALUE, -1, 0, 1, 3, 4, 5, Integer.MAX_VALUE};

    private DuesOnRungs made;
    private PlainModel model;

    public static void main(String[] args) {
        for (int state = 0; state < 5; state++) {
            EdgesTest test = new EdgesTest();
            test.begin(state);
            test.ones("state " + state);
            test.twos("state " + state);
            test.threes("state " + state);
            test.changes(state);
            test.changesOfBonds(state);
            test.changesOfSheets(state);
        }
        CHECKS.end();
    }

    /** 0 empty, 1 full, 2 full and behind back, 3 without a way, 4 dues alone. */
    private void begin(int state) {
        made = new DuesOnRungs();
        model = new PlainModel();
        for (int k = 0; k < 5 && state > 0; k++) {
            due(12 * k + 12, 99 - 10 * k);
            if (state != 4) {
                made.bond(k + 1, 90 - 9 * k, 9 - k, 3 + k, state == 3 ? 60 : 50 - k, 60 - k);
                model.bond(k + 1, 90 - 9 * k, 9 - k, 3 + k, state == 3 ? 60 : 50 - k, 60 - k);
                made.hold(k, 20 * k);
                model.hold(k, 20 * k);
            }
        }
        for (int day : state == 1 || state == 2 ? new int[] {1, 12, 30, 36, 48, 60} : new int[] {}) {
            made.rate(day, day % 4);
            model.rate(day, day % 4);
            made.limit(day, day);
            model.limit(day, day);
        }
        fill(state);
        if (state == 2) {
            made.image();
            model.image();
            due(12, 0);
            due(1, 5);
            made.back();
            model.back();
        }
    }

    private void due(int day, int v) {
        made.due(day, v);
        model.due(day, v);
    }

    /** Sheets of 5 ints, 40 bytes and 5 bytes; the last stays missing. */
    private void fill(int state) {
        for (int sheet = 0; sheet < 3 && state > 0; sheet++) {
            int sort = sheet == 0 ? 1 : 0;
            int size = sheet == 1 ? 40 : 5;
            made.sheet(sheet, sort, size);
            model.sheet(sheet, sort, size);
            for (int i = 0; i < size; i++) {
                made.put(sheet, i, sheet == 1 ? 3 * i + 1 : i);
                model.put(sheet, i, sheet == 1 ? 3 * i + 1 : i);
            }
        }
    }

    private static void same(String call, long got, long want) {
        CHECKS.due(call, got, want);
    }

    private void ones(String state) {
        for (int a : EDGES) {
            String call = state + ", of " + a + ": ";
            same(call + "surplus", made.surplus(a), model.surplus(a));
            same(call + "worst", made.worst(a), model.worst(a));
            same(call + "drawn", made.drawn(a), model.drawn(a));
            same(call + "count", made.count(a), model.count(a));
            same(call + "least", made.least(), model.least());
        }
    }

    private void twos(String state) {
        for (int a : EDGES) {
            for (int b : EDGES) {
                String call = state + ", of " + a + ", " + b + ": ";
                same(call + "rung", made.rung(a, b), model.rung(a, b));
                same(call + "day", made.day(a, b), model.day(a, b));
                same(call + "told", made.told(a, b), model.told(a, b));
                same(call + "pays", made.pays(a, b), model.pays(a, b));
                same(call + "paysAt", made.paysAt(a, b), model.paysAt(a, b));
                same(call + "taken", made.taken(a, b), model.taken(a, b));
                same(call + "ranked", made.ranked(a, b), model.ranked(a, b));
                same(call + "worth", made.worth(a, b), model.worth(a, b));
                same(call + "amount", made.amount(a, b), model.amount(a, b));
                same(call + "ladder", made.ladder(a, b), model.ladder(a, b));
                same(call + "replay", made.replay(a, b), model.replay(a, b));
            }
        }
    }

    private void threes(String state) {
        for (int a : FEW) {
            for (int b : EDGES) {
                for (int c : FEW) {
                    String call = state + ", of " + a + ", " + b + ", " + c + ": ";
                    same(call + "length", made.length(a, b, c), model.length(a, b, c));
                    same(call + "length", made.length(b, a, c), model.length(b, a, c));
                    same(call + "proof", made.proof(a, b, c), model.proof(a, b, c));
                    same(call + "chance", made.chance(a, b, c), model.chance(a, b, c));
                    same(call + "tells", made.tells(a, c, b), model.tells(a, c, b));
                }
            }
        }
    }

    private void both(String call, int state, ToLongFunction<DuesOnRungs> one, ToLongFunction<PlainModel> other) {
        same("state " + state + ": " + call, one.applyAsLong(made), other.applyAsLong(model));
    }

    private void changes(int state) {
        for (int a : EDGES) {
            begin(state);
            for (int b : EDGES) {
                both("due " + a + ", " + b, state, x -> x.due(a, b), m -> m.due(a, b));
                both("rate " + a + ", " + b, state, x -> x.rate(a, b), m -> m.rate(a, b));
                both("limit " + a + ", " + b, state, x -> x.limit(a, b), m -> m.limit(a, b));
                both("hold " + a + ", " + b, state, x -> x.hold(a, b), m -> m.hold(a, b));
                asked(state);
            }
            both("film " + a, state, x -> x.film(a), m -> m.film(a));
            both("back", state, x -> x.back(), m -> m.back());
            both("image", state, x -> x.image(), m -> m.image());
            asked(state);
        }
    }

    private void changesOfBonds(int state) {
        int[] low = {0, 1, 0, 1, 1, 1};
        for (int k = 0; k < 6; k++) {
            for (int v : EDGES) {
                begin(state);
                int[] a = low.clone();
                a[k] = v;
                both("bond, " + k + " is " + v, state, x -> x.bond(a[0], a[1], a[2], a[3], a[4], a[5]),
                    m -> m.bond(a[0], a[1], a[2], a[3], a[4], a[5]));
                asked(state);
            }
        }
    }

    private void changesOfSheets(int state) {
        for (int a : FEW) {
            for (int b : FEW) {
                begin(state);
                for (int c : EDGES) {
                    both("put " + a + ", " + b + ", " + c, state, x -> x.put(a, b, c), m -> m.put(a, b, c));
                    for (int d : FEW) {
                        both("load " + a + ", " + b + ", " + c + ", " + d, state, x -> x.load(a, b, c, d),
                            m -> m.load(a, b, c, d));
                        both("copy " + d + ": " + a + ", " + b + ", " + c, state, x -> x.copy(d, a, d, b, c),
                            m -> m.copy(d, a, d, b, c));
                    }
                    both("copy", state, x -> x.copy(a, c, b, 0, 5), m -> m.copy(a, c, b, 0, 5));
                }
                asked(state);
                for (int c : EDGES) {
                    both("sheet " + a + ", " + b + ", " + c, state, x -> x.sheet(a, b, c), m -> m.sheet(a, b, c));
                }
                asked(state);
            }
        }
    }

    /** What shows whether both came to the same state. */
    private void asked(int state) {
        for (int what = 0; what <= 4; what++) {
            int k = what;
            both("count " + k, state, x -> x.count(k), m -> m.count(k));
            both("rung " + k, state, x -> x.rung(k, 1), m -> m.rung(k, 1));
            both("told " + k, state, x -> x.told(k, 8), m -> m.told(k, 8));
            both("tells " + k, state, x -> x.tells(k, 0, 0), m -> m.tells(k, 0, 0));
            both("replay " + k, state, x -> x.replay(k - 1, 20), m -> m.replay(k - 1, 20));
            both("worth " + k, state, x -> x.worth(k - 2, 0), m -> m.worth(k - 2, 0));
        }
    }
}
