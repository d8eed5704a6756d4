import java.math.BigInteger;
import java.util.ArrayList;
import java.util.Arrays;
import java.util.Comparator;
import java.util.List;
import java.util.Map;
import java.util.SortedSet;
import java.util.TreeMap;
import java.util.TreeSet;

/**
 * The document once more, in its plainest form and by other means than the class: maps, lists,
 * BigIntegers, events one by one, everything reckoned anew for each call. Random runs hold the
 * class against it.
 */
final class PlainModel {
    static final int NONE = -1, BAD = -2, STATE = -3, FULL = -4, GREAT = -7, NO_WAY = -8;
    static final long NO = Long.MIN_VALUE;

    /** Thrown where a product or a sum is no long. */
    static final class Great extends Exception {
        private static final long serialVersionUID = 1;
    }

    /** Thrown where LEAST finds no way. */
    static final class NoWay extends Exception {
        private static final long serialVersionUID = 1;
    }

    record Bond(int kind, int price, int coupon, int step, int end, int pay) { }

    record Frac(BigInteger above, BigInteger below) {
        static Frac of(long above, long below) {
            BigInteger a = BigInteger.valueOf(above);
            BigInteger b = BigInteger.valueOf(below);
            BigInteger g = a.gcd(b);
            return new Frac(a.divide(g), b.divide(g));
        }

        static final Frac NOTHING = of(0, 1);

        private static BigInteger held(BigInteger x) throws Great {
            if (x.abs().compareTo(BigInteger.valueOf(Long.MAX_VALUE)) > 0) {
                throw new Great();
            }
            return x;
        }

        private static Frac lowest(BigInteger a, BigInteger b) {
            BigInteger g = a.gcd(b);
            return new Frac(a.divide(g), b.divide(g));
        }

        Frac plus(Frac f) throws Great {
            BigInteger left = held(above.multiply(f.below));
            BigInteger right = held(f.above.multiply(below));
            return lowest(held(left.add(right)), held(below.multiply(f.below)));
        }

        Frac times(Frac f) throws Great {
            return lowest(held(above.multiply(f.above)), held(below.multiply(f.below)));
        }

        Frac turned() {
            return above.signum() < 0 ? new Frac(below.negate(), above.negate()) : new Frac(below, above);
        }

        Frac over(Frac f) throws Great {
            return times(f.turned());
        }

        Frac less(Frac f) throws Great {
            return plus(f.times(of(-1, 1)));
        }

        int compareTo(Frac f) {
            return above.multiply(f.below).compareTo(f.above.multiply(below));
        }

        long part(int part) {
            return (part == 0 ? above : below).longValueExact();
        }
    }

    static final class Row {
        Frac bare = Frac.NOTHING;
        final TreeMap<Integer, Frac> shares = new TreeMap<>();
    }

    static final class End {
        int left;
        final TreeMap<Integer, Row> rows = new TreeMap<>();
        final Row cost = new Row();
    }

    private TreeMap<Integer, Integer> dues = new TreeMap<>();
    private TreeMap<Integer, Integer> rates = new TreeMap<>();
    private TreeMap<Integer, Integer> limits = new TreeMap<>();
    private List<Bond> bonds = new ArrayList<>();
    private List<Integer> held = new ArrayList<>();
    private PlainModel image;
    private final int[] sorts = {NONE, NONE, NONE, NONE};
    private final int[][] sheets = new int[4][];

    private static final int[] AS_NOW = {};

    // ---- what the terms say

    private static boolean in(int x, int low, int high) {
        return low <= x && x <= high;
    }

    private boolean hasBond(int b) {
        return in(b, 0, bonds.size() - 1);
    }

    private List<Integer> rungs() {
        return new ArrayList<>(dues.keySet());
    }

    private int rungOf(int day) {
        Integer at = dues.ceilingKey(day);
        return at == null ? NONE : rungs().indexOf(at);
    }

    private int rateOf(int day, int[] told) {
        int i = rungOf(day);
        if (i != NONE && i < told.length && told[i] != NONE) {
            return told[i];
        }
        Map.Entry<Integer, Integer> latest = rates.floorEntry(day);
        return latest == null ? 0 : latest.getValue();
    }

    private static SortedSet<Integer> payingDays(Bond b) {
        TreeSet<Integer> days = new TreeSet<>();
        for (int day = b.step(); day <= b.end(); day += b.step()) {
            days.add(day);
        }
        days.add(b.end());
        return days;
    }

    private int plain(Bond b, int day) {
        return b.coupon() + (day == b.end() ? b.pay() : 0);
    }

    private int paying(int bond, int day, int[] told) {
        Bond b = bonds.get(bond);
        SortedSet<Integer> days = payingDays(b);
        if (!days.contains(day)) {
            return 0;
        }
        int k = days.headSet(day).size();
        int strip = plain(b, day) - b.coupon();
        int stepped = plain(b, day) + k;
        switch (b.kind()) {
            case 0:
                return plain(b, day);
            case 1:
                return strip;
            case 2:
                return stepped;
            case 3:
                int half = b.pay() / 2;
                return strip + (day == days.first() ? half : 0) - (day == b.end() ? half : 0);
            case 4:
                return stepped + b.coupon() * rateOf(day, told);
            default:
                for (int call : days) {
                    if (call < b.end() && rateOf(call, told) == 0) {
                        return call > day ? stepped : call == day ? stepped + b.pay() : 0;
                    }
                }
                return stepped;
        }
    }

    private int paysAtRung(int bond, int i) {
        int sum = 0;
        for (int day = 1; day <= 60; day++) {
            if (rungOf(day) == i) {
                sum += paying(bond, day, AS_NOW);
            }
        }
        return sum;
    }

    private Frac factor(int i) {
        return Frac.of(4 + rateOf(rungs().get(i), AS_NOW), 4);
    }

    private int amountOfRow(int row, int i) {
        if (row == -1) {
            return dues.get(rungs().get(i));
        }
        if (row >= 0) {
            return paysAtRung(row, i);
        }
        int sum = 0;
        for (int b = 0; b < bonds.size(); b++) {
            sum += held.get(b) * paysAtRung(b, i);
        }
        return sum;
    }

    private Frac worthAt(int row, int i) throws Great {
        Frac w = Frac.of(amountOfRow(row, i), 1);
        for (int k = 0; k <= i; k++) {
            w = w.over(factor(k));
        }
        return w;
    }

    private Frac worthOf(int row) throws Great {
        Frac sum = Frac.NOTHING;
        for (int i = 0; i < dues.size(); i++) {
            sum = sum.plus(worthAt(row, i));
        }
        return sum;
    }

    private Frac lengthOf(int row) throws Great {
        Frac sum = Frac.NOTHING;
        for (int i = 0; i < dues.size(); i++) {
            sum = sum.plus(Frac.of(i + 1, 1).times(worthAt(row, i)));
        }
        return sum.over(worthOf(row));
    }

    private Frac spreadOf(int row) throws Great {
        Frac sum = Frac.NOTHING;
        Frac length = lengthOf(row);
        for (int i = 0; i < dues.size(); i++) {
            Frac d = Frac.of(i + 1, 1).less(length);
            sum = sum.plus(d.times(d).times(worthAt(row, i)));
        }
        return sum.over(worthOf(row));
    }

    private Row carryRow(int i) throws Great {
        Row row = new Row();
        for (int b = 0; b < bonds.size(); b++) {
            row.shares.put(b, Frac.NOTHING);
        }
        for (int k = 0; k <= i; k++) {
            Frac f = k > 0 ? factor(k) : Frac.of(1, 1);
            row.bare = row.bare.times(f).less(Frac.of(dues.get(rungs().get(k)), 1));
            for (int b = 0; b < bonds.size(); b++) {
                row.shares.put(b, row.shares.get(b).times(f).plus(Frac.of(paysAtRung(b, k), 1)));
            }
        }
        return row;
    }

    private End begun() throws Great {
        End end = new End();
        Frac minus = Frac.of(-1, 1);
        for (int i = 0; i < dues.size(); i++) {
            end.rows.put(10 + i, carryRow(i));
            Integer limit = limits.get(rungs().get(i));
            if (limit != null && i < dues.size() - 1) {
                Row room = new Row();
                Row carry = end.rows.get(10 + i);
                room.bare = Frac.of(limit, 1).plus(carry.bare.times(minus));
                for (int b : carry.shares.keySet()) {
                    room.shares.put(b, carry.shares.get(b).times(minus));
                }
                end.rows.put(20 + i, room);
            }
        }
        for (int b = 0; b < bonds.size(); b++) {
            end.cost.shares.put(b, Frac.of(bonds.get(b).price(), 1));
        }
        return end;
    }

    private static int enters(Row leaves, Row cost) throws Great, NoWay {
        int best = NONE;
        Frac least = null;
        for (int n : leaves.shares.keySet()) {
            Frac s = leaves.shares.get(n);
            if (s.above().signum() > 0) {
                Frac ratio = cost.shares.get(n).over(s);
                if (least == null || ratio.compareTo(least) < 0) {
                    best = n;
                    least = ratio;
                }
            }
        }
        if (best == NONE) {
            throw new NoWay();
        }
        return best;
    }

    private static void replace(Row row, int enters, int leaves, Row by) throws Great {
        Frac f = row.shares.remove(enters);
        row.bare = row.bare.plus(f.times(by.bare));
        for (int n : by.shares.keySet()) {
            Frac more = f.times(by.shares.get(n));
            row.shares.put(n, n == leaves ? more : row.shares.get(n).plus(more));
        }
    }

    private End least0() throws Great, NoWay {
        End end = begun();
        while (true) {
            int leaves = NONE;
            for (int n : end.rows.descendingKeySet()) {
                if (end.rows.get(n).bare.above().signum() < 0) {
                    leaves = n;
                }
            }
            if (leaves == NONE) {
                return end;
            }
            Row old = end.rows.remove(leaves);
            int enters = enters(old, end.cost);
            Frac s = old.shares.get(enters);
            Frac minus = Frac.of(-1, 1);
            Row by = new Row();
            by.bare = old.bare.over(s).times(minus);
            for (int n : old.shares.keySet()) {
                if (n == enters) {
                    by.shares.put(leaves, Frac.of(1, 1).over(s));
                } else {
                    by.shares.put(n, old.shares.get(n).over(s).times(minus));
                }
            }
            for (Row row : end.rows.values()) {
                replace(row, enters, leaves, by);
            }
            replace(end.cost, enters, leaves, by);
            end.rows.put(enters, by);
            end.left++;
        }
    }

    private Frac proofOf(End end, int i) throws Great {
        Frac carry = end.cost.shares.getOrDefault(10 + i, Frac.NOTHING);
        Frac room = end.cost.shares.getOrDefault(20 + i, Frac.NOTHING);
        Frac p = carry.plus(room.times(Frac.of(-1, 1)));
        return i == dues.size() - 1 ? p : p.plus(proofOf(end, i + 1).times(factor(i + 1)));
    }

    private int lastPaid(int b) {
        int last = NONE;
        for (int i = 0; i < dues.size(); i++) {
            last = paysAtRung(b, i) > 0 ? i : last;
        }
        return last;
    }

    private int allPaid(int b) {
        int sum = 0;
        for (int i = 0; i < dues.size(); i++) {
            sum += paysAtRung(b, i);
        }
        return sum;
    }

    private List<Integer> order(int ranking) {
        List<Integer> order = new ArrayList<>();
        for (int b = 0; b < bonds.size(); b++) {
            order.add(b);
        }
        Comparator<Integer> by;
        if (ranking == 0) {
            by = Comparator.comparing(b -> bonds.get(b).price());
        } else if (ranking == 1) {
            by = (a, b) -> {
                boolean none = allPaid(a) == 0;
                boolean noneOther = allPaid(b) == 0;
                if (none || noneOther) {
                    return Boolean.compare(none, noneOther);
                }
                return Frac.of(bonds.get(a).price(), allPaid(a)).compareTo(Frac.of(bonds.get(b).price(), allPaid(b)));
            };
        } else if (ranking == 2) {
            by = Comparator.comparing(b -> -bonds.get(b).end());
        } else {
            by = Comparator.comparing(b -> -bonds.get(b).coupon());
        }
        order.sort(by.thenComparing(Comparator.naturalOrder()));
        return order;
    }

    private static final class Played {
        final List<Long> cash = new ArrayList<>();
        final List<Long> shortAt = new ArrayList<>();
        long spilt;
        long grew;
        long paid;

        long allShort() {
            return shortAt.stream().mapToLong(Long::longValue).sum();
        }
    }

    private Played play(int[] told, List<Integer> heldNow) {
        Played p = new Played();
        long cash = 0;
        long cashPaid = 0;
        for (int day = 1; day <= 60; day++) {
            for (int b = 0; b < bonds.size(); b++) {
                cashPaid += (long) heldNow.get(b) * paying(b, day, told);
            }
            if (!dues.containsKey(day)) {
                continue;
            }
            long grown = cash * (4 + rateOf(day, told)) / 4;
            p.grew += grown - cash;
            cash = grown + cashPaid;
            p.paid += cashPaid;
            cashPaid = 0;
            int due = dues.get(day);
            if (cash >= due) {
                cash -= due;
                p.shortAt.add(0L);
            } else {
                p.shortAt.add(due - cash);
                cash = 0;
            }
            if (limits.containsKey(day) && day != dues.lastKey() && cash > limits.get(day)) {
                p.spilt += cash - limits.get(day);
                cash = limits.get(day);
            }
            p.cash.add(cash);
        }
        return p;
    }

    private long drawnShort(int seed) {
        int z = seed;
        int[] told = new int[dues.size()];
        for (int i = 0; i < told.length; i++) {
            z = z * 1103515245 + 12345;
            told[i] = (z >>> 9) % 4;
        }
        return play(told, held).allShort();
    }

    private int firstOtherwise(int[] row, List<Integer> heldNow) {
        Played p = play(AS_NOW, heldNow);
        for (int i = 0; i < row.length; i++) {
            if (i >= p.cash.size() || p.cash.get(i) != row[i]) {
                return i;
            }
        }
        return NONE;
    }

    // ---- the calls

    private static int tell(TreeMap<Integer, Integer> map, int day, int v, int none, int most) {
        if (v != none && !map.containsKey(day) && map.size() == most) {
            return FULL;
        }
        Integer was = v == none ? map.remove(day) : map.put(day, v);
        return was == null ? none : was;
    }

    int due(int day, int v) {
        return in(day, 1, 60) && in(v, 0, 99) ? tell(dues, day, v, 0, 5) : BAD;
    }

    int rate(int day, int v) {
        return in(day, 1, 60) && in(v, -1, 3) ? tell(rates, day, v, -1, 6) : BAD;
    }

    int limit(int day, int v) {
        return in(day, 1, 60) && in(v, -1, 99) ? tell(limits, day, v, -1, 5) : BAD;
    }

    int rung(int i, int what) {
        if (!in(what, 0, 3)) {
            return BAD;
        }
        if (!in(i, 0, dues.size() - 1)) {
            return -12;
        }
        int day = rungs().get(i);
        return new int[] {day, dues.get(day), rateOf(day, AS_NOW), limits.getOrDefault(day, NONE)}[what];
    }

    int day(int day, int what) {
        if (!in(day, 1, 60) || !in(what, 0, 1)) {
            return BAD;
        }
        return what == 0 ? rateOf(day, AS_NOW) : rungOf(day);
    }

    int bond(int kind, int price, int coupon, int step, int end, int pay) {
        if (!in(kind, 0, 5) || !in(price, 1, 99) || !in(coupon, 0, 9) || !in(step, 1, 30) || !in(end, 1, 60)
                || !in(pay, 1, 60)) {
            return BAD;
        }
        if (bonds.size() == 5) {
            return FULL;
        }
        bonds.add(new Bond(kind, price, coupon, step, end, pay));
        held.add(0);
        return bonds.size() - 1;
    }

    int hold(int bond, int n) {
        return hasBond(bond) && in(n, 0, 99) ? held.set(bond, n) : BAD;
    }

    int told(int bond, int what) {
        if (!hasBond(bond) || !in(what, 0, 8)) {
            return BAD;
        }
        Bond b = bonds.get(bond);
        return new int[] {b.kind(), b.price(), b.coupon(), b.step(), b.end(), b.pay(), held.get(bond),
            lastPaid(bond), allPaid(bond)}[what];
    }

    int pays(int bond, int day) {
        return hasBond(bond) && in(day, 1, 60) ? paying(bond, day, AS_NOW) : BAD;
    }

    int paysAt(int bond, int i) {
        if (!hasBond(bond)) {
            return BAD;
        }
        return in(i, 0, dues.size() - 1) ? paysAtRung(bond, i) : -12;
    }

    int taken(int bond, int k) {
        if (!hasBond(bond) || !in(k, 0, 5)) {
            return BAD;
        }
        List<List<Integer>> chains = List.of(List.of(0), List.of(1, 0), List.of(2, 0), List.of(3, 1, 0),
            List.of(4, 2, 0), List.of(5, 2, 0));
        return chains.get(bonds.get(bond).kind()).contains(k) ? bonds.get(bond).price() : -13;
    }

    int ranked(int ranking, int i) {
        if (!in(ranking, 0, 3)) {
            return BAD;
        }
        return hasBond(i) ? order(ranking).get(i) : -12;
    }

    long worth(int row, int part) {
        if (!in(row, -2, bonds.size() - 1) || !in(part, 0, 1)) {
            return NO;
        }
        try {
            return worthOf(row).part(part);
        } catch (Great e) {
            return NO;
        }
    }

    long length(int row, int what, int part) {
        if (!in(row, -2, bonds.size() - 1) || !in(what, 0, 1) || !in(part, 0, 1)) {
            return NO;
        }
        try {
            if (worthOf(row).above().signum() == 0) {
                return NO;
            }
            return (what == 0 ? lengthOf(row) : spreadOf(row)).part(part);
        } catch (Great e) {
            return NO;
        }
    }

    long surplus(int part) {
        try {
            return in(part, 0, 1) ? worthOf(-2).less(worthOf(-1)).part(part) : NO;
        } catch (Great e) {
            return NO;
        }
    }

    int least() {
        try {
            return least0().left;
        } catch (Great e) {
            return GREAT;
        } catch (NoWay e) {
            return NO_WAY;
        }
    }

    private static Frac bareOf(End end, int number) {
        return end.rows.containsKey(number) ? end.rows.get(number).bare : Frac.NOTHING;
    }

    long amount(int bond, int part) {
        if (bond != NONE && !hasBond(bond) || !in(part, 0, 1)) {
            return NO;
        }
        try {
            End end = least0();
            return (bond == NONE ? end.cost.bare : bareOf(end, bond)).part(part);
        } catch (Great | NoWay e) {
            return NO;
        }
    }

    long proof(int i, int what, int part) {
        if (!in(i, 0, dues.size() - 1) || !in(what, 0, 3) || !in(part, 0, 1)) {
            return NO;
        }
        try {
            End end = least0();
            if (what == 0) {
                return bareOf(end, 10 + i).part(part);
            }
            if (what == 3) {
                return proofOf(end, i).part(part);
            }
            return end.cost.shares.getOrDefault(10 * what + i, Frac.NOTHING).part(part);
        } catch (Great | NoWay e) {
            return NO;
        }
    }

    int ladder(int ranking, int what) {
        if (!in(ranking, 0, 3) || !hasBond(what) && what != 10 && what != 11) {
            return BAD;
        }
        int[] bought = new int[12];
        for (int i = dues.size() - 1; i >= 0; i--) {
            int need = dues.get(rungs().get(i));
            for (int b = 0; b < bonds.size(); b++) {
                need -= bought[b] * paysAtRung(b, i);
            }
            if (need <= 0) {
                continue;
            }
            int rung = i;
            Integer found = order(ranking).stream().filter(b -> lastPaid(b) == rung).findFirst().orElse(null);
            if (found == null) {
                bought[11] += need;
            } else {
                while (need > 0) {
                    bought[found]++;
                    bought[10] += bonds.get(found).price();
                    need -= paysAtRung(found, i);
                }
            }
        }
        return bought[what];
    }

    int replay(int sheet, int what) {
        if (!in(sheet, -1, 3) || !in(what, 0, 4) && !in(what, 10, 14) && !in(what, 20, 23)) {
            return BAD;
        }
        int[] told = AS_NOW;
        if (sheet != NONE) {
            if (sorts[sheet] == NONE) {
                return -11;
            }
            told = sheets[sheet];
            if (told.length > 5 || Arrays.stream(told).anyMatch(v -> !in(v, 0, 9))) {
                return BAD;
            }
        }
        if (what < 20 && what % 10 >= dues.size()) {
            return -12;
        }
        Played p = play(told, held);
        if (what < 10) {
            return p.cash.get(what).intValue();
        }
        if (what < 20) {
            return p.shortAt.get(what - 10).intValue();
        }
        return (int) new long[] {p.allShort(), p.spilt, p.grew, p.paid}[what - 20];
    }

    int worst(int what) {
        if (!in(what, 0, 1)) {
            return BAD;
        }
        int worst = NONE;
        long most = -1;
        for (int i = 0; i < dues.size(); i++) {
            int[] told = new int[dues.size()];
            Arrays.fill(told, NONE);
            told[i] = 9;
            long s = play(told, held).allShort();
            if (s > most) {
                most = s;
                worst = i;
            }
        }
        return what == 0 ? worst : worst == NONE ? 0 : (int) most;
    }

    int drawn(int seed) {
        return (int) drawnShort(seed);
    }

    int chance(int seed, int m, int part) {
        if (!in(m, 1, 20) || !in(part, 0, 1)) {
            return BAD;
        }
        int met = 0;
        for (int k = 0; k < m; k++) {
            met += drawnShort(seed + k) == 0 ? 1 : 0;
        }
        return (int) Frac.of(met, m).part(part);
    }

    int tells(int sheet, int what, int bond) {
        if (!in(sheet, 0, 3) || !in(what, 0, 2) || what > 0 && !hasBond(bond)) {
            return BAD;
        }
        if (sorts[sheet] == NONE) {
            return -11;
        }
        if (sheets[sheet].length > 5) {
            return BAD;
        }
        if (what == 0) {
            return firstOtherwise(sheets[sheet], held);
        }
        List<Integer> so = new ArrayList<>();
        for (int n = 0; n <= 99; n++) {
            List<Integer> other = new ArrayList<>(held);
            other.set(bond, n);
            if (firstOtherwise(sheets[sheet], other) == NONE) {
                so.add(n);
            }
        }
        return what == 1 ? so.size() : so.isEmpty() ? NONE : so.get(0);
    }

    int film(int sheet) {
        if (!in(sheet, 0, 3)) {
            return BAD;
        }
        sorts[sheet] = 1;
        sheets[sheet] = play(AS_NOW, held).cash.stream().mapToInt(Long::intValue).toArray();
        return dues.size();
    }

    private void takeFrom(PlainModel other) {
        dues = new TreeMap<>(other.dues);
        rates = new TreeMap<>(other.rates);
        limits = new TreeMap<>(other.limits);
        bonds = new ArrayList<>(other.bonds);
        held = new ArrayList<>(other.held);
    }

    int image() {
        image = new PlainModel();
        image.takeFrom(this);
        return bonds.size();
    }

    int back() {
        if (image == null) {
            return STATE;
        }
        takeFrom(image);
        return bonds.size();
    }

    int count(int what) {
        if (!in(what, 0, 4)) {
            return BAD;
        }
        return new int[] {dues.size(), rates.size(), limits.size(), bonds.size(),
            held.stream().mapToInt(Integer::intValue).sum()}[what];
    }

    int sheet(int sheet, int sort, int n) {
        if (!in(sheet, 0, 3) || !in(sort, -1, 1) || sort >= 0 && n > 40) {
            return BAD;
        }
        if (sort >= 0 && n < 0) {
            return -14;
        }
        sorts[sheet] = sort;
        sheets[sheet] = sort < 0 ? null : new int[n];
        return 1;
    }

    int put(int sheet, int i, int v) {
        if (!in(sheet, 0, 3)) {
            return BAD;
        }
        if (sorts[sheet] == NONE) {
            return -11;
        }
        if (!in(i, 0, sheets[sheet].length - 1)) {
            return -12;
        }
        sheets[sheet][i] = sorts[sheet] == 0 ? (byte) v : v;
        return 1;
    }

    int copy(int sheet, int i, int other, int j, int n) {
        if (!in(sheet, 0, 3) || !in(other, 0, 3)) {
            return BAD;
        }
        if (sorts[sheet] == NONE || sorts[other] == NONE) {
            return -11;
        }
        if (sorts[sheet] != sorts[other]) {
            return -13;
        }
        if (n < 0 || i < 0 || j < 0 || (long) i + n > sheets[sheet].length || (long) j + n > sheets[other].length) {
            return -12;
        }
        int[] were = sheets[sheet].clone();
        for (int k = 0; k < n; k++) {
            sheets[other][j + k] = were[i + k];
        }
        return n;
    }

    int load(int sheet, int sort, int from, int n) {
        if (!in(sheet, 0, 3) || !in(sort, 0, 1) || !in(n, 0, 5)) {
            return BAD;
        }
        if (sorts[sheet] != NONE && sorts[sheet] != sort) {
            return -13;
        }
        if (sorts[sheet] == NONE) {
            return -11;
        }
        int came = 0;
        for (int k = 0; k < n; k++) {
            long at = from + 2L * k;
            if (at < 0 || at + 1 >= sheets[sheet].length) {
                return -12;
            }
            came += due(sheets[sheet][(int) at], sheets[sheet][(int) at + 1]) >= 0 ? 1 : 0;
        }
        return came;
    }
}
