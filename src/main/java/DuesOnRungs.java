import java.util.Arrays;

/**
 * A matcher of dues by rungs: dues on days, rates that hold from a day on, bonds of kinds; present
 * worths as exact fractions, the least cost by which all dues can be met, ladders, replays. The
 * document beside the project, DOC.md, says what each call does and answers.
 */
public final class DuesOnRungs {
    public static final int NONE = -1, BAD = -2, STATE = -3, FULL = -4, GREAT = -7, NO_WAY = -8;
    public static final long NO = Long.MIN_VALUE;

    private static final int MISSING = -11, OUTSIDE = -12, OTHER_SORT = -13, BELOW_NOTHING = -14;

    private static final int LAST_DAY = 60;
    private static final int MOST_RUNGS = 5, MOST_RATES = 6, MOST_LIMITS = 5, MOST_BONDS = 5;
    private static final int MOST_DUE = 99, MOST_LIMIT = 99, MOST_HELD = 99;
    private static final int MOST_RATE = 3, MOST_REPLAY_RATE = 9, WORST_RATE = 9, DRAWN_RATES = 4;
    private static final int MOST_PRICE = 99, MOST_COUPON = 9, MOST_STEP = 30, MOST_PAY = 60;
    private static final int MOST_SEEDS = 20;

    private static final int PLAIN = 0, STRIP = 1, STEPPED = 2, SINKER = 3, LINKED = 4, CALLED = 5;
    /** Of each kind the one that it is under. */
    private static final int[] UNDER = {NONE, PLAIN, PLAIN, STRIP, STEPPED, STEPPED};

    private static final int ROW_OF_DUES = -1, ROW_OF_HELD = -2;
    private static final int CHEAP = 0, RICH = 1, LONG = 2, STEADY = 3;
    private static final int LADDER_COST = 10, LADDER_LACKING = 11;
    private static final int OF_SHORT = 10, ALL_SHORT = 20, ALL_SPILT = 21, ALL_GREW = 22, ALL_PAID = 23;

    /** Numbers of the dictionary: amounts are 0 .. 4, carries from 10 on, rooms from 20 on. */
    private static final int CARRY = 10, ROOM = 20;
    private static final int MOST_ROWS = 2 * MOST_RUNGS - 1;
    /** Far above the ways to choose 5 of 14 numbers, which no run of exchanges comes to twice. */
    private static final int MOST_EXCHANGES = 1000000;
    /** Euclid's way with two longs has fewer than 100 steps. */
    private static final int MOST_DIVISIONS = 200;

    private static final int SHEETS = 4, MOST_ITEMS = 40, MOST_TOLD = 5, MOST_LOADED = 5;
    private static final int BYTES = 0, INTS = 1;

    private final Book book = new Book();
    private final Book image = new Book();
    private boolean imageKept;
    private final Scene now = new Scene();
    private final Scene then = new Scene();
    /** Whether the book was changed behind the last look at "now". */
    private boolean stale = true;
    private final int[] noRates = new int[MOST_RUNGS];
    private final int[] toldRates = new int[MOST_RUNGS];
    private final int[] held = new int[MOST_BONDS];
    private final int[] amounts = new int[MOST_RUNGS];
    private final Worths worths = new Worths();
    private final Fraction answer = new Fraction();
    private final Dictionary dictionary = new Dictionary();
    private boolean solved;
    private int ending;
    private final Ladder rungsBought = new Ladder();
    private final Replay played = new Replay();
    private final Sheet[] sheets = new Sheet[SHEETS];

    public DuesOnRungs() {
        Arrays.fill(noRates, NONE);
        for (int i = 0; i < SHEETS; i++) {
            sheets[i] = new Sheet();
        }
    }

    // ---- days

    public int due(int day, int v) {
        if (!isDay(day) || !within(v, 0, MOST_DUE)) {
            return BAD;
        }
        stale = true;
        return book.dues.tell(day, v);
    }

    public int rate(int day, int v) {
        if (!isDay(day) || !within(v, NONE, MOST_RATE)) {
            return BAD;
        }
        stale = true;
        return book.rates.tell(day, v);
    }

    public int limit(int day, int v) {
        if (!isDay(day) || !within(v, NONE, MOST_LIMIT)) {
            return BAD;
        }
        stale = true;
        return book.limits.tell(day, v);
    }

    public int rung(int i, int what) {
        if (!within(what, 0, 3)) {
            return BAD;
        }
        look();
        if (!now.hasRung(i)) {
            return OUTSIDE;
        }
        switch (what) {
            case 0:
                return now.rungDay[i];
            case 1:
                return now.dueAt[i];
            case 2:
                return now.rateAt[i];
            default:
                return now.limitAt[i];
        }
    }

    public int day(int day, int what) {
        if (!isDay(day) || !within(what, 0, 1)) {
            return BAD;
        }
        look();
        return what == 0 ? now.rateOn[day] : now.rungOf[day];
    }

    // ---- bonds

    public int bond(int kind, int price, int coupon, int step, int end, int pay) {
        if (!isKind(kind) || !within(price, 1, MOST_PRICE) || !within(coupon, 0, MOST_COUPON)
                || !within(step, 1, MOST_STEP) || !isDay(end) || !within(pay, 1, MOST_PAY)) {
            return BAD;
        }
        if (book.bondCount >= MOST_BONDS) {
            return FULL;
        }
        stale = true;
        int number = book.bondCount;
        book.bonds[number].begin(kind, price, coupon, step, end, pay);
        book.bondCount = number + 1;
        return number;
    }

    public int hold(int bond, int n) {
        if (!book.hasBond(bond) || !within(n, 0, MOST_HELD)) {
            return BAD;
        }
        int was = book.bonds[bond].held;
        book.bonds[bond].held = n;
        return was;
    }

    public int told(int bond, int what) {
        if (!book.hasBond(bond) || !within(what, 0, 8)) {
            return BAD;
        }
        look();
        if (what == 7) {
            return now.lastPaid[bond];
        }
        return what == 8 ? now.allPaid[bond] : book.bonds[bond].term(what);
    }

    public int pays(int bond, int day) {
        if (!book.hasBond(bond) || !isDay(day)) {
            return BAD;
        }
        look();
        return now.paidOn[bond][day];
    }

    public int paysAt(int bond, int i) {
        if (!book.hasBond(bond)) {
            return BAD;
        }
        look();
        return now.hasRung(i) ? now.paidAt[bond][i] : OUTSIDE;
    }

    public int taken(int bond, int k) {
        if (!book.hasBond(bond) || !isKind(k)) {
            return BAD;
        }
        return book.bonds[bond].isOfKind(k) ? book.bonds[bond].price : OTHER_SORT;
    }

    public int ranked(int ranking, int i) {
        if (!isRanking(ranking)) {
            return BAD;
        }
        if (!book.hasBond(i)) {
            return OUTSIDE;
        }
        look();
        rungsBought.rank(ranking, book, now);
        return rungsBought.order[i];
    }

    // ---- worths

    public long worth(int row, int part) {
        if (!isRow(row) || !isPart(part)) {
            return NO;
        }
        reckonRow(row);
        return worths.whole.part(part);
    }

    public long length(int row, int what, int part) {
        if (!isRow(row) || !within(what, 0, 1) || !isPart(part)) {
            return NO;
        }
        reckonRow(row);
        if (worths.whole.above == 0) {
            return NO;
        }
        worths.reckonLength(now.rungs);
        if (what == 0) {
            return worths.middle.part(part);
        }
        worths.reckonSpread(now.rungs);
        return worths.spread.part(part);
    }

    public long surplus(int part) {
        if (!isPart(part)) {
            return NO;
        }
        reckonRow(ROW_OF_HELD);
        answer.become(worths.whole);
        reckonRow(ROW_OF_DUES);
        worths.whole.negate();
        answer.add(worths.whole);
        return answer.part(part);
    }

    // ---- the least cost

    public int least() {
        solve();
        return ending;
    }

    public long amount(int bond, int part) {
        if (bond != NONE && !book.hasBond(bond) || !isPart(part)) {
            return NO;
        }
        solve();
        if (ending < 0) {
            return NO;
        }
        if (bond == NONE) {
            return dictionary.cost.bare.part(part);
        }
        dictionary.amountOf(bond, answer);
        return answer.part(part);
    }

    public long proof(int i, int what, int part) {
        look();
        if (!now.hasRung(i) || !within(what, 0, 3) || !isPart(part)) {
            return NO;
        }
        solve();
        if (ending < 0) {
            return NO;
        }
        switch (what) {
            case 0:
                dictionary.amountOf(CARRY + i, answer);
                break;
            case 1:
                dictionary.priceOf(CARRY + i, answer);
                break;
            case 2:
                dictionary.priceOf(ROOM + i, answer);
                break;
            default:
                dictionary.prove(i, now, answer);
                break;
        }
        return answer.part(part);
    }

    // ---- ladders, replays

    public int ladder(int ranking, int what) {
        if (!isRanking(ranking)
                || !book.hasBond(what) && what != LADDER_COST && what != LADDER_LACKING) {
            return BAD;
        }
        look();
        rungsBought.rank(ranking, book, now);
        rungsBought.buy(book, now);
        if (what == LADDER_COST) {
            return rungsBought.cost;
        }
        return what == LADDER_LACKING ? rungsBought.lacking : rungsBought.bought[what];
    }

    public int replay(int sheet, int what) {
        if (sheet != NONE && !isSheet(sheet) || !isAskedOfReplay(what)) {
            return BAD;
        }
        Arrays.fill(toldRates, NONE);
        if (sheet != NONE) {
            if (sheets[sheet].isMissing()) {
                return MISSING;
            }
            if (!readRates(sheets[sheet])) {
                return BAD;
            }
        }
        look();
        if (what < ALL_SHORT && !now.hasRung(what % OF_SHORT)) {
            return OUTSIDE;
        }
        playBy(toldRates);
        return (int) played.tell(what);
    }

    public int worst(int what) {
        if (!within(what, 0, 1)) {
            return BAD;
        }
        look();
        int worst = NONE;
        long most = 0;
        for (int i = 0; i < now.rungs; i++) {
            Arrays.fill(toldRates, NONE);
            toldRates[i] = WORST_RATE;
            playBy(toldRates);
            if (worst == NONE || played.allShort > most) {
                worst = i;
                most = played.allShort;
            }
        }
        return what == 0 ? worst : (int) most;
    }

    public int drawn(int seed) {
        return (int) shortBySeed(seed);
    }

    public int chance(int seed, int m, int part) {
        if (!within(m, 1, MOST_SEEDS) || !isPart(part)) {
            return BAD;
        }
        int met = 0;
        for (int k = 0; k < m; k++) {
            if (shortBySeed(seed + k) == 0) {
                met++;
            }
        }
        answer.become(met, m);
        return (int) answer.part(part);
    }

    // ---- what was told

    public int tells(int sheet, int what, int bond) {
        if (!isSheet(sheet) || !within(what, 0, 2) || what != 0 && !book.hasBond(bond)) {
            return BAD;
        }
        Sheet told = sheets[sheet];
        if (told.isMissing()) {
            return MISSING;
        }
        if (told.size > MOST_TOLD) {
            return BAD;
        }
        look();
        readHeld();
        if (what == 0) {
            played.play(now, held);
            return played.firstOtherwise(told);
        }
        int many = 0;
        int first = NONE;
        for (int n = 0; n <= MOST_HELD; n++) {
            held[bond] = n;
            played.play(now, held);
            if (played.firstOtherwise(told) == NONE) {
                many++;
                first = first == NONE ? n : first;
            }
        }
        return what == 1 ? many : first;
    }

    public int film(int sheet) {
        if (!isSheet(sheet)) {
            return BAD;
        }
        look();
        readHeld();
        played.play(now, held);
        sheets[sheet].begin(INTS, now.rungs);
        for (int i = 0; i < now.rungs; i++) {
            sheets[sheet].items[i] = (int) played.cash[i];
        }
        return now.rungs;
    }

    public int image() {
        image.become(book);
        imageKept = true;
        return book.bondCount;
    }

    public int back() {
        if (!imageKept) {
            return STATE;
        }
        stale = true;
        book.become(image);
        return book.bondCount;
    }

    public int count(int what) {
        switch (what) {
            case 0:
                return book.dues.countTold();
            case 1:
                return book.rates.countTold();
            case 2:
                return book.limits.countTold();
            case 3:
                return book.bondCount;
            case 4:
                return book.countHeld();
            default:
                return BAD;
        }
    }

    // ---- the host

    public int sheet(int sheet, int sort, int n) {
        if (!isSheet(sheet) || sort != NONE && !isSort(sort)) {
            return BAD;
        }
        if (sort == NONE) {
            sheets[sheet].begin(NONE, 0);
            return 1;
        }
        if (n > MOST_ITEMS) {
            return BAD;
        }
        if (n < 0) {
            return BELOW_NOTHING;
        }
        sheets[sheet].begin(sort, n);
        return 1;
    }

    public int put(int sheet, int i, int v) {
        if (!isSheet(sheet)) {
            return BAD;
        }
        if (sheets[sheet].isMissing()) {
            return MISSING;
        }
        if (!sheets[sheet].hasItem(i)) {
            return OUTSIDE;
        }
        sheets[sheet].write(i, v);
        return 1;
    }

    public int copy(int sheet, int i, int other, int j, int n) {
        if (!isSheet(sheet) || !isSheet(other)) {
            return BAD;
        }
        Sheet from = sheets[sheet];
        Sheet to = sheets[other];
        if (from.isMissing() || to.isMissing()) {
            return MISSING;
        }
        if (from.sort != to.sort) {
            return OTHER_SORT;
        }
        if (!from.hasItems(i, n) || !to.hasItems(j, n)) {
            return OUTSIDE;
        }
        System.arraycopy(from.items, i, to.items, j, n);
        return n;
    }

    public int load(int sheet, int sort, int from, int n) {
        if (!isSheet(sheet) || !isSort(sort) || !within(n, 0, MOST_LOADED)) {
            return BAD;
        }
        Sheet source = sheets[sheet];
        if (!source.isMissing() && source.sort != sort) {
            return OTHER_SORT;
        }
        if (source.isMissing()) {
            return MISSING;
        }
        int came = 0;
        for (int k = 0; k < n; k++) {
            // "from" may be so great that a sum with it wraps round: the first test keeps it small.
            if (!source.hasItem(from) || !source.hasItems(from + 2 * k, 2)) {
                return OUTSIDE;
            }
            if (due(source.items[from + 2 * k], source.items[from + 2 * k + 1]) >= 0) {
                came++;
            }
        }
        return came;
    }

    // ---- what the calls share

    private static boolean within(int x, int low, int high) {
        return x >= low && x <= high;
    }

    private static boolean isDay(int day) {
        return within(day, 1, LAST_DAY);
    }

    private static boolean isKind(int kind) {
        return within(kind, PLAIN, CALLED);
    }

    private static boolean isRanking(int ranking) {
        return within(ranking, CHEAP, STEADY);
    }

    private static boolean isPart(int part) {
        return within(part, 0, 1);
    }

    private static boolean isSheet(int sheet) {
        return within(sheet, 0, SHEETS - 1);
    }

    private static boolean isSort(int sort) {
        return sort == BYTES || sort == INTS;
    }

    private static boolean isAskedOfReplay(int what) {
        return within(what, 0, MOST_RUNGS - 1) || within(what, OF_SHORT, OF_SHORT + MOST_RUNGS - 1)
                || within(what, ALL_SHORT, ALL_PAID);
    }

    private boolean isRow(int row) {
        return row == ROW_OF_DUES || row == ROW_OF_HELD || book.hasBond(row);
    }

    /** Lays "now" anew if the book was changed. */
    private void look() {
        if (stale) {
            now.lay(book, noRates);
            solved = false;
            stale = false;
        }
    }

    /** Comes to the end of LEAST, once for each state of the book. */
    private void solve() {
        look();
        if (!solved) {
            dictionary.begin(book, now);
            ending = dictionary.solve();
            solved = true;
        }
    }

    private void readHeld() {
        for (int b = 0; b < MOST_BONDS; b++) {
            held[b] = book.hasBond(b) ? book.bonds[b].held : 0;
        }
    }

    private void reckonRow(int row) {
        look();
        for (int i = 0; i < now.rungs; i++) {
            if (row == ROW_OF_DUES) {
                amounts[i] = now.dueAt[i];
            } else if (row == ROW_OF_HELD) {
                readHeld();
                amounts[i] = now.paidByAll(held, i);
            } else {
                amounts[i] = now.paidAt[row][i];
            }
        }
        worths.reckonWorth(amounts, now);
    }

    /** Rates of a sheet come to toldRates; answers whether it tells them rightly. */
    private boolean readRates(Sheet sheet) {
        if (sheet.size > MOST_TOLD) {
            return false;
        }
        for (int i = 0; i < sheet.size; i++) {
            if (!within(sheet.items[i], 0, MOST_REPLAY_RATE)) {
                return false;
            }
            toldRates[i] = sheet.items[i];
        }
        return true;
    }

    private void playBy(int[] rates) {
        then.lay(book, rates);
        readHeld();
        played.play(then, held);
    }

    private long shortBySeed(int seed) {
        int z = seed;
        for (int i = 0; i < MOST_RUNGS; i++) {
            z = z * 1103515245 + 12345;
            toldRates[i] = (z >>> 9) % DRAWN_RATES;
        }
        playBy(toldRates);
        return played.allShort;
    }

    /** What is told of days: a number for each, "none" where nothing is told. */
    private static final class DayRow {
        final int[] of = new int[LAST_DAY + 1];
        final int none;
        final int most;

        DayRow(int none, int most) {
            this.none = none;
            this.most = most;
            Arrays.fill(of, none);
        }

        int tell(int day, int v) {
            int was = of[day];
            if (v != none && was == none && countTold() >= most) {
                return FULL;
            }
            of[day] = v;
            return was;
        }

        int countTold() {
            int many = 0;
            for (int day = 1; day <= LAST_DAY; day++) {
                if (of[day] != none) {
                    many++;
                }
            }
            return many;
        }

        void become(DayRow other) {
            System.arraycopy(other.of, 0, of, 0, of.length);
        }
    }

    /** All that an image keeps. */
    private static final class Book {
        final DayRow dues = new DayRow(0, MOST_RUNGS);
        final DayRow rates = new DayRow(NONE, MOST_RATES);
        final DayRow limits = new DayRow(NONE, MOST_LIMITS);
        final Bond[] bonds = new Bond[MOST_BONDS];
        int bondCount;

        Book() {
            for (int b = 0; b < MOST_BONDS; b++) {
                bonds[b] = new Bond();
            }
        }

        boolean hasBond(int bond) {
            return bond >= 0 && bond < bondCount;
        }

        int countHeld() {
            int many = 0;
            for (int b = 0; b < bondCount; b++) {
                many += bonds[b].held;
            }
            return many;
        }

        void become(Book other) {
            dues.become(other.dues);
            rates.become(other.rates);
            limits.become(other.limits);
            bondCount = other.bondCount;
            for (int b = 0; b < MOST_BONDS; b++) {
                bonds[b].become(other.bonds[b]);
            }
        }
    }

    /** A bond's terms; all its places stand from the start, so that none is made by a call. */
    private static final class Bond {
        int kind;
        int price;
        int coupon;
        int step;
        int end;
        int pay;
        int held;

        void begin(int kind, int price, int coupon, int step, int end, int pay) {
            this.kind = kind;
            this.price = price;
            this.coupon = coupon;
            this.step = step;
            this.end = end;
            this.pay = pay;
            held = 0;
        }

        void become(Bond other) {
            begin(other.kind, other.price, other.coupon, other.step, other.end, other.pay);
            held = other.held;
        }

        int term(int what) {
            switch (what) {
                case 0:
                    return kind;
                case 1:
                    return price;
                case 2:
                    return coupon;
                case 3:
                    return step;
                case 4:
                    return end;
                case 5:
                    return pay;
                default:
                    return held;
            }
        }

        boolean isOfKind(int other) {
            int k = kind;
            for (int level = 0; level < UNDER.length && k != NONE; level++) {
                if (k == other) {
                    return true;
                }
                k = UNDER[k];
            }
            return false;
        }

        /** What one of it pays comes to each day's place of a row. */
        void layPayings(int[] row, int[] rateOn) {
            Arrays.fill(row, 0);
            int k = 0;
            int next = step;
            for (int day = 1; day <= end; day++) {
                if (day == next || day == end) {
                    row[day] = payingOn(day, k, rateOn[day]);
                    if (isCalledOn(day, rateOn[day])) {
                        row[day] += pay;
                        break;
                    }
                    k++;
                    next += step;
                }
            }
        }

        private boolean isCalledOn(int day, int rate) {
            return kind == CALLED && rate == 0 && day < end;
        }

        private int payingOn(int day, int k, int rate) {
            int atEnd = day == end ? pay : 0;
            switch (kind) {
                case STRIP:
                    return atEnd;
                case STEPPED:
                case CALLED:
                    return coupon + k + atEnd;
                case SINKER:
                    return (k == 0 ? pay / 2 : 0) + (day == end ? pay - pay / 2 : 0);
                case LINKED:
                    return coupon + k + coupon * rate + atEnd;
                default:
                    return coupon + atEnd;
            }
        }
    }

    /** What follows from a book and rates that are told of rungs: rungs, rates of days, payings. */
    private static final class Scene {
        int rungs;
        final int[] rungDay = new int[MOST_RUNGS];
        final int[] dueAt = new int[MOST_RUNGS];
        final int[] rateAt = new int[MOST_RUNGS];
        final int[] limitAt = new int[MOST_RUNGS];
        final int[] rungOf = new int[LAST_DAY + 1];
        final int[] rateOn = new int[LAST_DAY + 1];
        final int[][] paidOn = new int[MOST_BONDS][LAST_DAY + 1];
        final int[][] paidAt = new int[MOST_BONDS][MOST_RUNGS];
        final int[] allPaid = new int[MOST_BONDS];
        final int[] lastPaid = new int[MOST_BONDS];

        void lay(Book book, int[] toldRates) {
            layRungs(book);
            layRates(book.rates.of, toldRates);
            for (int b = 0; b < book.bondCount; b++) {
                book.bonds[b].layPayings(paidOn[b], rateOn);
                gatherPayings(b);
            }
        }

        boolean hasRung(int i) {
            return i >= 0 && i < rungs;
        }

        /** Whether a limit counts there: it doesn't at the last rung. */
        boolean isLimited(int i) {
            return i < rungs - 1 && limitAt[i] != NONE;
        }

        int paidByAll(int[] held, int i) {
            int sum = 0;
            for (int b = 0; b < MOST_BONDS; b++) {
                // paidAt may hold what an earlier state left of bonds that are no more: held is 0 there.
                sum += held[b] * paidAt[b][i];
            }
            return sum;
        }

        private void layRungs(Book book) {
            rungs = 0;
            for (int day = 1; day <= LAST_DAY; day++) {
                rungOf[day] = rungs;
                if (book.dues.of[day] > 0 && rungs < MOST_RUNGS) {
                    rungDay[rungs] = day;
                    dueAt[rungs] = book.dues.of[day];
                    limitAt[rungs] = book.limits.of[day];
                    rungs++;
                }
            }
            for (int day = LAST_DAY; day >= 1 && rungOf[day] == rungs; day--) {
                rungOf[day] = NONE;
            }
        }

        private void layRates(int[] rates, int[] toldRates) {
            int latest = 0;
            for (int day = 1; day <= LAST_DAY; day++) {
                latest = rates[day] == NONE ? latest : rates[day];
                int i = rungOf[day];
                rateOn[day] = i == NONE || toldRates[i] == NONE ? latest : toldRates[i];
            }
            for (int i = 0; i < rungs; i++) {
                rateAt[i] = rateOn[rungDay[i]];
            }
        }

        private void gatherPayings(int b) {
            Arrays.fill(paidAt[b], 0);
            allPaid[b] = 0;
            lastPaid[b] = NONE;
            for (int day = 1; day <= LAST_DAY; day++) {
                int i = rungOf[day];
                if (i != NONE && paidOn[b][day] > 0) {
                    paidAt[b][i] += paidOn[b][day];
                    allPaid[b] += paidOn[b][day];
                    lastPaid[b] = i;
                }
            }
        }
    }

    /** In lowest terms; "great" once a product or a sum on its way was no long. */
    private static final class Fraction {
        long above;
        long below = 1;
        boolean great;

        void become(long newAbove, long newBelow) {
            great = false;
            reduce(newAbove, newBelow);
        }

        void become(Fraction f) {
            above = f.above;
            below = f.below;
            great = f.great;
        }

        void becomeFactor(int rate) {
            become(4 + rate, 4);
        }

        void add(Fraction f) {
            great = great || f.great;
            long left = product(above, f.below);
            long right = product(f.above, below);
            long under = product(below, f.below);
            if (left == NO || right == NO || under == NO) {
                great = true;
            } else {
                reduce(sum(left, right), under);
            }
        }

        void multiply(Fraction f) {
            great = great || f.great;
            reduce(product(above, f.above), product(below, f.below));
        }

        /** By one that is not 0. */
        void divide(Fraction f) {
            great = great || f.great || f.above == 0;
            int sign = f.above < 0 ? -1 : 1;
            reduce(product(above, sign * f.below), product(below, sign * f.above));
        }

        void negate() {
            above = -above;
        }

        long part(int part) {
            if (great) {
                return NO;
            }
            return part == 0 ? above : below;
        }

        /**
         * Exactly, without a product: whole parts first, then what is left of each turned round,
         * by which the lesser becomes the greater.
         */
        int compare(Fraction f) {
            long a = above;
            long b = below;
            long c = f.above;
            long d = f.below;
            int sign = 1;
            for (int step = 0; step < MOST_DIVISIONS && b > 0 && d > 0; step++) {
                long one = Math.floorDiv(a, b);
                long other = Math.floorDiv(c, d);
                if (one != other) {
                    return one < other ? -sign : sign;
                }
                long restOfOne = a - one * b;
                long restOfOther = c - other * d;
                a = b;
                b = restOfOne;
                c = d;
                d = restOfOther;
                sign = -sign;
            }
            // One that has no rest is whole: turned round it would be greater than any other.
            return b == d ? 0 : b == 0 ? sign : -sign;
        }

        private void reduce(long newAbove, long newBelow) {
            if (great || newAbove == NO || newBelow == NO || newBelow <= 0) {
                great = true;
                return;
            }
            long a = newAbove < 0 ? -newAbove : newAbove;
            long b = newBelow;
            for (int step = 0; step < MOST_DIVISIONS && a > 0; step++) {
                long rest = b % a;
                b = a;
                a = rest;
            }
            if (b > 0) {
                above = newAbove / b;
                below = newBelow / b;
            }
        }

        /** NO where it is no long; of numbers that are not NO themselves. */
        private static long product(long a, long b) {
            if (a == 0 || b == 0) {
                return 0;
            }
            long sizeOfA = a < 0 ? -a : a;
            long sizeOfB = b < 0 ? -b : b;
            return sizeOfA > Long.MAX_VALUE / sizeOfB ? NO : a * b;
        }

        /** NO where it is no long. */
        private static long sum(long a, long b) {
            long s = a + b;
            boolean wrapped = a > 0 && b > 0 && s < 0 || a < 0 && b < 0 && s >= 0;
            return wrapped ? NO : s;
        }
    }

    /** Worth, length and spread of one row of amounts. */
    private static final class Worths {
        final Fraction whole = new Fraction();
        final Fraction middle = new Fraction();
        final Fraction spread = new Fraction();
        private final Fraction[] at = new Fraction[MOST_RUNGS];
        private final Fraction factor = new Fraction();
        private final Fraction term = new Fraction();
        private final Fraction distance = new Fraction();

        Worths() {
            for (int i = 0; i < MOST_RUNGS; i++) {
                at[i] = new Fraction();
            }
        }

        void reckonWorth(int[] amounts, Scene scene) {
            whole.become(0, 1);
            for (int i = 0; i < scene.rungs; i++) {
                at[i].become(amounts[i], 1);
                for (int k = 0; k <= i; k++) {
                    factor.becomeFactor(scene.rateAt[k]);
                    at[i].divide(factor);
                }
                whole.add(at[i]);
            }
        }

        /** Behind reckonWorth, of a row whose worth is not 0. */
        void reckonLength(int rungs) {
            middle.become(0, 1);
            for (int i = 0; i < rungs; i++) {
                term.become(i + 1, 1);
                term.multiply(at[i]);
                middle.add(term);
            }
            middle.divide(whole);
        }

        /** Behind reckonLength. */
        void reckonSpread(int rungs) {
            spread.become(0, 1);
            for (int i = 0; i < rungs; i++) {
                term.become(middle);
                term.negate();
                distance.become(i + 1, 1);
                distance.add(term);
                term.become(distance);
                term.multiply(distance);
                term.multiply(at[i]);
                spread.add(term);
            }
            spread.divide(whole);
        }
    }

    /** A row of the dictionary: what its number is, told by the numbers that have no row. */
    private static final class Row {
        int number;
        final Fraction bare = new Fraction();
        final Fraction[] shares = new Fraction[MOST_BONDS];

        Row() {
            for (int j = 0; j < MOST_BONDS; j++) {
                shares[j] = new Fraction();
            }
        }

        void begin(int newNumber) {
            number = newNumber;
            bare.become(0, 1);
            for (int j = 0; j < MOST_BONDS; j++) {
                shares[j].become(0, 1);
            }
        }

        void become(Row other) {
            bare.become(other.bare);
            for (int j = 0; j < MOST_BONDS; j++) {
                shares[j].become(other.shares[j]);
            }
        }

        void multiply(Fraction f) {
            bare.multiply(f);
            for (int j = 0; j < MOST_BONDS; j++) {
                shares[j].multiply(f);
            }
        }

        void negate() {
            bare.negate();
            for (int j = 0; j < MOST_BONDS; j++) {
                shares[j].negate();
            }
        }

        boolean isGreat() {
            boolean isGreat = bare.great;
            for (int j = 0; j < MOST_BONDS; j++) {
                isGreat = isGreat || shares[j].great;
            }
            return isGreat;
        }
    }

    /** Rows of carries and rooms and the cost, solved for one another until no bare is below 0. */
    private static final class Dictionary {
        final Row cost = new Row();
        private final Row[] rows = new Row[MOST_ROWS];
        private int height;
        /** The numbers that the shares are of. */
        private final int[] shareOf = new int[MOST_BONDS];
        private int width;
        private final Fraction factor = new Fraction();
        private final Fraction term = new Fraction();
        private final Fraction ratio = new Fraction();
        private final Fraction leastRatio = new Fraction();

        Dictionary() {
            for (int r = 0; r < MOST_ROWS; r++) {
                rows[r] = new Row();
            }
        }

        /** The dictionary as it is at first. */
        void begin(Book book, Scene scene) {
            width = book.bondCount;
            cost.begin(NONE);
            for (int j = 0; j < width; j++) {
                shareOf[j] = j;
                cost.shares[j].become(book.bonds[j].price, 1);
            }
            height = scene.rungs;
            for (int i = 0; i < scene.rungs; i++) {
                beginCarry(i, scene);
            }
            for (int i = 0; i < scene.rungs; i++) {
                if (scene.isLimited(i) && height < MOST_ROWS) {
                    Row room = rows[height];
                    height++;
                    room.begin(ROOM + i);
                    room.become(rows[i]);
                    room.negate();
                    term.become(scene.limitAt[i], 1);
                    room.bare.add(term);
                }
            }
        }

        /** Behind begin: how many times one left; GREAT; NO_WAY. */
        int solve() {
            for (int left = 0; left < MOST_EXCHANGES; left++) {
                int leaving = findLeaving();
                if (leaving == NONE) {
                    return left;
                }
                int entering = findEntering(rows[leaving]);
                if (entering < 0) {
                    return entering;
                }
                exchange(leaving, entering);
                if (isGreat()) {
                    return GREAT;
                }
            }
            return GREAT;
        }

        /** The bare of a number: 0 if it has no row. */
        void amountOf(int number, Fraction result) {
            result.become(0, 1);
            for (int r = 0; r < height; r++) {
                if (rows[r].number == number) {
                    result.become(rows[r].bare);
                }
            }
        }

        /** The share of a number in the cost: 0 if it has a row, or is none. */
        void priceOf(int number, Fraction result) {
            result.become(0, 1);
            for (int j = 0; j < width; j++) {
                if (shareOf[j] == number) {
                    result.become(cost.shares[j]);
                }
            }
        }

        void prove(int i, Scene scene, Fraction result) {
            result.become(0, 1);
            for (int k = scene.rungs - 1; k >= i; k--) {
                if (k < scene.rungs - 1) {
                    factor.becomeFactor(scene.rateAt[k + 1]);
                    result.multiply(factor);
                }
                priceOf(ROOM + k, term);
                term.negate();
                priceOf(CARRY + k, ratio);
                ratio.add(term);
                result.add(ratio);
            }
        }

        /** The carry of the rung ahead, grown, and what is paid here, less the due. */
        private void beginCarry(int i, Scene scene) {
            Row carry = rows[i];
            carry.begin(CARRY + i);
            if (i > 0) {
                carry.become(rows[i - 1]);
                factor.becomeFactor(scene.rateAt[i]);
                carry.multiply(factor);
            }
            for (int j = 0; j < width; j++) {
                term.become(scene.paidAt[j][i], 1);
                carry.shares[j].add(term);
            }
            term.become(-scene.dueAt[i], 1);
            carry.bare.add(term);
        }

        private int findLeaving() {
            int leaving = NONE;
            for (int r = 0; r < height; r++) {
                if (rows[r].bare.above < 0
                        && (leaving == NONE || rows[r].number < rows[leaving].number)) {
                    leaving = r;
                }
            }
            return leaving;
        }

        /** The place among the shares of the number that enters; GREAT; NO_WAY. */
        private int findEntering(Row leaving) {
            int entering = NO_WAY;
            for (int j = 0; j < width; j++) {
                if (leaving.shares[j].above > 0) {
                    ratio.become(cost.shares[j]);
                    ratio.divide(leaving.shares[j]);
                    if (ratio.great) {
                        return GREAT;
                    }
                    int order = entering < 0 ? -1 : ratio.compare(leastRatio);
                    if (order < 0 || order == 0 && shareOf[j] < shareOf[entering]) {
                        entering = j;
                        leastRatio.become(ratio);
                    }
                }
            }
            return entering;
        }

        private void exchange(int leaving, int entering) {
            Row solved = rows[leaving];
            solveFor(solved, entering);
            int left = solved.number;
            solved.number = shareOf[entering];
            shareOf[entering] = left;
            for (int r = 0; r < height; r++) {
                if (r != leaving) {
                    replaceIn(rows[r], solved, entering);
                }
            }
            replaceIn(cost, solved, entering);
        }

        private void solveFor(Row row, int entering) {
            factor.become(row.shares[entering]);
            row.bare.divide(factor);
            row.bare.negate();
            for (int j = 0; j < width; j++) {
                if (j == entering) {
                    row.shares[j].become(1, 1);
                    row.shares[j].divide(factor);
                } else {
                    row.shares[j].divide(factor);
                    row.shares[j].negate();
                }
            }
        }

        private void replaceIn(Row row, Row solved, int entering) {
            factor.become(row.shares[entering]);
            term.become(solved.bare);
            term.multiply(factor);
            row.bare.add(term);
            for (int j = 0; j < width; j++) {
                if (j == entering) {
                    row.shares[j].multiply(solved.shares[j]);
                } else {
                    term.become(solved.shares[j]);
                    term.multiply(factor);
                    row.shares[j].add(term);
                }
            }
        }

        private boolean isGreat() {
            boolean isGreat = cost.isGreat();
            for (int r = 0; r < height; r++) {
                isGreat = isGreat || rows[r].isGreat();
            }
            return isGreat;
        }
    }

    /** Bonds by a ranking, and what is bought by it from the last rung back. */
    private static final class Ladder {
        final int[] order = new int[MOST_BONDS];
        final int[] bought = new int[MOST_BONDS];
        int cost;
        int lacking;

        /** Each bond goes ahead of those that it is better than; so like ones stay by number. */
        void rank(int ranking, Book book, Scene scene) {
            for (int b = 0; b < book.bondCount; b++) {
                int place = b;
                while (place > 0 && compare(ranking, b, order[place - 1], book, scene) < 0) {
                    order[place] = order[place - 1];
                    place--;
                }
                order[place] = b;
            }
        }

        /** Behind rank. */
        void buy(Book book, Scene scene) {
            Arrays.fill(bought, 0);
            cost = 0;
            lacking = 0;
            for (int i = scene.rungs - 1; i >= 0; i--) {
                int need = scene.dueAt[i] - scene.paidByAll(bought, i);
                if (need > 0) {
                    buyAt(i, need, book, scene);
                }
            }
        }

        private void buyAt(int i, int need, Book book, Scene scene) {
            for (int place = 0; place < book.bondCount; place++) {
                int b = order[place];
                int one = scene.paidAt[b][i];
                if (scene.lastPaid[b] == i && one > 0) {
                    int many = (need + one - 1) / one;
                    bought[b] = many;
                    cost += many * book.bonds[b].price;
                    return;
                }
            }
            lacking += need;
        }

        private static int compare(int ranking, int a, int b, Book book, Scene scene) {
            Bond one = book.bonds[a];
            Bond other = book.bonds[b];
            switch (ranking) {
                case CHEAP:
                    return Integer.compare(one.price, other.price);
                case RICH:
                    return compareRich(one.price, scene.allPaid[a], other.price, scene.allPaid[b]);
                case LONG:
                    return Integer.compare(other.end, one.end);
                default:
                    return Integer.compare(other.coupon, one.coupon);
            }
        }

        private static int compareRich(int price, int paid, int otherPrice, int otherPaid) {
            if (paid == 0 || otherPaid == 0) {
                return Integer.compare(paid == 0 ? 1 : 0, otherPaid == 0 ? 1 : 0);
            }
            return Integer.compare(price * otherPaid, otherPrice * paid);
        }
    }

    /**
     * What comes to pass at the rungs. Payings between two rungs only gather until the due, so
     * that they are taken all at once.
     */
    private static final class Replay {
        final long[] cash = new long[MOST_RUNGS];
        long allShort;
        private final long[] shortAt = new long[MOST_RUNGS];
        private long allSpilt;
        private long allGrew;
        private long allPaid;
        private int rungs;

        void play(Scene scene, int[] held) {
            rungs = scene.rungs;
            allShort = 0;
            allSpilt = 0;
            allGrew = 0;
            allPaid = 0;
            long has = 0;
            for (int i = 0; i < scene.rungs; i++) {
                long grown = has * (4 + scene.rateAt[i]) / 4;
                long paid = scene.paidByAll(held, i);
                allGrew += grown - has;
                allPaid += paid;
                long rest = grown + paid - scene.dueAt[i];
                shortAt[i] = rest < 0 ? -rest : 0;
                allShort += shortAt[i];
                has = rest < 0 ? 0 : rest;
                if (scene.isLimited(i) && has > scene.limitAt[i]) {
                    allSpilt += has - scene.limitAt[i];
                    has = scene.limitAt[i];
                }
                cash[i] = has;
            }
        }

        /** What replay() asks; of rungs that there are. */
        long tell(int what) {
            switch (what) {
                case ALL_SHORT:
                    return allShort;
                case ALL_SPILT:
                    return allSpilt;
                case ALL_GREW:
                    return allGrew;
                case ALL_PAID:
                    return allPaid;
                default:
                    return what < OF_SHORT ? cash[what] : shortAt[what - OF_SHORT];
            }
        }

        int firstOtherwise(Sheet told) {
            for (int i = 0; i < told.size; i++) {
                if (i >= rungs || told.items[i] != cash[i]) {
                    return i;
                }
            }
            return NONE;
        }
    }

    /** A row of numbers of a sort, or missing (sort NONE); its items stand from the start. */
    private static final class Sheet {
        final int[] items = new int[MOST_ITEMS];
        int sort = NONE;
        int size;

        void begin(int newSort, int newSize) {
            sort = newSort;
            size = newSize;
            Arrays.fill(items, 0);
        }

        boolean isMissing() {
            return sort == NONE;
        }

        boolean hasItem(int i) {
            return i >= 0 && i < size;
        }

        boolean hasItems(int from, int n) {
            return from >= 0 && n >= 0 && from <= size - n;
        }

        void write(int i, int v) {
            items[i] = sort == BYTES ? (byte) v : v;
        }
    }
}
