import java.util.Random;

/** Random runs of calls, each answer held against PlainModel's. */
public final class RandomRunsTest {
    private static final int RUNS = 200;
    private static final int CALLS = 512;
    private static final int[] WILD = {Integer.MIN_VALUE, Integer.MIN_VALUE + 1, -13, -3, -2, -1, 0, 1, 4, 5, 6, 9,
        10, 11, 14, 20, 23, 39, 40, 41, 60, 61, 99, 100, 255, 256, Integer.MAX_VALUE - 1, Integer.MAX_VALUE};

    private final Random random;
    private final DuesOnRungs made = new DuesOnRungs();
    private final PlainModel model = new PlainModel();
    /** How many of a thousand arguments are taken from WILD. */
    private final int wildness;
    /** Whether dues stand densely and bonds pay often, so that fractions become great. */
    private final boolean heavy;
    private String call = "";

    private RandomRunsTest(long seed) {
        random = new Random(seed);
        wildness = seed % 5 == 0 ? 60 : 8;
        heavy = seed % 3 == 0;
    }

    public static void main(String[] args) {
        int runs = args.length > 0 ? Integer.parseInt(args[0]) : RUNS;
        Checks checks = new Checks("RandomRunsTest");
        for (int seed = 1; seed <= runs && checks.wrong() < 20; seed++) {
            RandomRunsTest run = new RandomRunsTest(seed);
            for (int k = 0; k < CALLS; k++) {
                long[] pair = k < 24 ? run.fill(k) : run.step();
                if (pair[0] != pair[1]) {
                    checks.due("seed " + seed + ", call " + k + ": " + run.call, pair[0], pair[1]);
                    break;
                }
                checks.due(run.call, pair[0], pair[1]);
            }
        }
        checks.end();
    }

    private int pick(int low, int high) {
        if (random.nextInt(1000) < wildness) {
            return WILD[random.nextInt(WILD.length)];
        }
        return low + random.nextInt(high - low + 1);
    }

    private long[] told(String name, long got, long want, int... args) {
        StringBuilder text = new StringBuilder(name).append('(');
        for (int i = 0; i < args.length; i++) {
            text.append(i > 0 ? ", " : "").append(args[i]);
        }
        call = text.append(')').toString();
        return new long[] {got, want};
    }

    /** A filled book first, so that most calls have something to tell of. */
    private long[] fill(int k) {
        if (k < 5) {
            return due();
        }
        if (k < 10) {
            return bond();
        }
        if (k < 15) {
            return rate();
        }
        if (k < 18 || k < 20 && !heavy) {
            return limit();
        }
        return hold();
    }

    private long[] due() {
        int day = pick(1, 60);
        int v = heavy ? pick(60, 99) : pick(0, 99);
        return told("due", made.due(day, v), model.due(day, v), day, v);
    }

    private long[] rate() {
        int day = pick(1, 60);
        int v = pick(random.nextInt(4) == 0 ? -1 : 0, 3);
        return told("rate", made.rate(day, v), model.rate(day, v), day, v);
    }

    private long[] limit() {
        Integer due = random.nextInt(3) > 0 ? Integer.valueOf(made.rung(random.nextInt(5), 0)) : null;
        int day = due != null && due > 0 ? due : pick(1, 60);
        int v = pick(random.nextInt(4) == 0 ? -1 : 0, random.nextBoolean() ? 99 : 9);
        return told("limit", made.limit(day, v), model.limit(day, v), day, v);
    }

    private long[] bond() {
        int kind = pick(0, 5);
        int price = pick(1, 99);
        int coupon = pick(0, 9);
        int step = heavy ? pick(1, 6) : pick(1, 30);
        int end = heavy ? pick(30, 60) : pick(1, 60);
        int pay = pick(1, 60);
        return told("bond", made.bond(kind, price, coupon, step, end, pay),
            model.bond(kind, price, coupon, step, end, pay), kind, price, coupon, step, end, pay);
    }

    private long[] hold() {
        int bond = pick(0, 4);
        int n = pick(0, random.nextBoolean() ? 3 : 99);
        return told("hold", made.hold(bond, n), model.hold(bond, n), bond, n);
    }

    private long[] step() {
        switch (random.nextInt(4)) {
            case 0:
                return random.nextInt(6) == 0 ? change() : askLittle();
            case 1:
                return askGreat();
            case 2:
                return askReplays();
            default:
                return host();
        }
    }

    private long[] change() {
        switch (random.nextInt(8)) {
            case 0:
                return due();
            case 1:
                return rate();
            case 2:
                return limit();
            case 3:
                return bond();
            case 4:
                return hold();
            case 5:
                return told("image", made.image(), model.image());
            default:
                return random.nextInt(3) > 0 ? due() : told("back", made.back(), model.back());
        }
    }

    private long[] askLittle() {
        int a = pick(0, 5);
        int what = pick(0, 9);
        int small = pick(0, 4);
        int day = pick(1, 60);
        switch (random.nextInt(8)) {
            case 0:
                return told("rung", made.rung(a, small), model.rung(a, small), a, small);
            case 1:
                return told("day", made.day(day, small / 2), model.day(day, small / 2), day, small / 2);
            case 2:
                return told("told", made.told(small, what), model.told(small, what), small, what);
            case 3:
                return told("pays", made.pays(small, day), model.pays(small, day), small, day);
            case 4:
                return told("paysAt", made.paysAt(small, a), model.paysAt(small, a), small, a);
            case 5:
                return told("taken", made.taken(small, a), model.taken(small, a), small, a);
            case 6:
                return told("ranked", made.ranked(small, a), model.ranked(small, a), small, a);
            default:
                return told("count", made.count(a), model.count(a), a);
        }
    }

    private long[] askGreat() {
        int row = pick(-2, 4);
        int bond = pick(-1, 4);
        int what = pick(0, 3);
        int i = pick(0, 4);
        int part = pick(0, 1);
        switch (random.nextInt(7)) {
            case 0:
                return told("worth", made.worth(row, part), model.worth(row, part), row, part);
            case 1:
                return told("length", made.length(row, what / 2, part), model.length(row, what / 2, part), row,
                    what / 2, part);
            case 2:
                return told("surplus", made.surplus(part), model.surplus(part), part);
            case 3:
                return told("least", made.least(), model.least());
            case 4:
                return told("amount", made.amount(bond, part), model.amount(bond, part), bond, part);
            default:
                return told("proof", made.proof(i, what, part), model.proof(i, what, part), i, what, part);
        }
    }

    private long[] askReplays() {
        int sheet = pick(-1, 3);
        int seed = random.nextInt();
        int part = pick(0, 1);
        switch (random.nextInt(9)) {
            case 0:
            case 1:
                int ranking = pick(0, 3);
                int of = random.nextBoolean() ? pick(0, 4) : pick(10, 11);
                return told("ladder", made.ladder(ranking, of), model.ladder(ranking, of), ranking, of);
            case 2:
                return told("worst", made.worst(part), model.worst(part), part);
            case 3:
                return told("drawn", made.drawn(seed), model.drawn(seed), seed);
            case 4:
                int m = pick(1, 20);
                return told("chance", made.chance(seed, m, part), model.chance(seed, m, part), seed, m, part);
            case 5:
                if (random.nextInt(8) > 0) {
                    return told("film", made.film(sheet), model.film(sheet), sheet);
                }
                int bond = pick(0, 4);
                int asked = pick(0, 2);
                return told("tells", made.tells(sheet, asked, bond), model.tells(sheet, asked, bond), sheet, asked, bond);
            default:
                int what = random.nextBoolean() ? pick(20, 23) : pick(0, 4) + 10 * random.nextInt(2);
                return told("replay", made.replay(sheet, what), model.replay(sheet, what), sheet, what);
        }
    }

    private long[] host() {
        int sheet = pick(0, 3);
        int sort = pick(-1, 1);
        int i = pick(0, 5);
        switch (random.nextInt(7)) {
            case 0:
                int size = random.nextInt(3) > 0 ? pick(0, 5) : pick(-1, 41);
                return told("sheet", made.sheet(sheet, sort, size), model.sheet(sheet, sort, size), sheet, sort, size);
            case 1:
            case 2:
                int cash = made.replay(-1, i % 5);
                int v = random.nextInt(3) == 0 ? cash : random.nextInt(4) > 0 ? pick(0, 9) : random.nextInt();
                return told("put", made.put(sheet, i, v), model.put(sheet, i, v), sheet, i, v);
            case 3:
                int other = pick(0, 3);
                int j = pick(0, 5);
                int n = pick(-1, 5);
                return told("copy", made.copy(sheet, i, other, j, n), model.copy(sheet, i, other, j, n), sheet, i,
                    other, j, n);
            case 4:
                int many = pick(0, 5);
                return random.nextInt(6) > 0 ? askLittle()
                    : told("load", made.load(sheet, sort, i, many), model.load(sheet, sort, i, many), sheet, sort, i,
                        many);
            default:
                int bond = pick(0, 4);
                int asked = pick(0, 2);
                if (random.nextInt(6) > 0) {
                    return told("film", made.film(sheet), model.film(sheet), sheet);
                }
                return told("tells", made.tells(sheet, asked, bond), model.tells(sheet, asked, bond), sheet, asked, bond);
        }
    }
}
