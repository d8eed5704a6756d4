import java.lang.reflect.Array;
import java.lang.reflect.Field;
import java.lang.reflect.Modifier;
import java.util.function.LongSupplier;

/**
 * "Refusals .. they change nothing", and asking changes nothing: all that an object keeps (what an
 * image keeps, THE IMAGE, SHEETS) is read ahead of each call and behind it.
 */
public final class RefusalsTest {
    private static final Checks CHECKS = new Checks("RefusalsTest");
    private static final String[] KEPT = {"book", "image", "imageKept", "sheets"};
    private static final int FREE_DAY = 59;

    private final DuesOnRungs x;

    private RefusalsTest(DuesOnRungs x) {
        this.x = x;
    }

    public static void main(String[] args) throws ReflectiveOperationException {
        RefusalsTest full = new RefusalsTest(full());
        full.days();
        full.bonds();
        full.sheets();
        full.loads();
        full.asking();
        full.askingReplays();
        RefusalsTest empty = new RefusalsTest(new DuesOnRungs());
        empty.noBonds();
        empty.asking();
        empty.askingReplays();
        CHECKS.due("what is kept is read at all", kept(full()).equals(kept(new DuesOnRungs())) ? 1 : 0, 0);
        CHECKS.end();
    }

    /** All full; THE IMAGE keeps something else; SHEETS 0 ints, 1 bytes, 2 ints, 3 missing. */
    private static DuesOnRungs full() {
        DuesOnRungs x = new DuesOnRungs();
        x.due(7, 7);
        x.image();
        x.due(7, 0);
        for (int k = 0; k < 5; k++) {
            x.due(10 * k + 10, 11 * k + 11);
            x.limit(10 * k + 10, 3 * k);
            x.bond(k, 20 + k, k, 3 + k, 60 - k, 30 + k);
            x.hold(k, k);
        }
        for (int k = 0; k < 6; k++) {
            x.rate(9 * k + 1, k % 4);
        }
        Books.sheet(x, 0, Books.INTS, 1, 2, 3, 4, 5, 6);
        Books.sheet(x, 1, Books.BYTES, 1, 2, 3);
        Books.sheet(x, 2, Books.INTS, 7, 8, 9);
        return x;
    }

    private static String kept(DuesOnRungs x) throws ReflectiveOperationException {
        StringBuilder text = new StringBuilder();
        for (String name : KEPT) {
            Field field = DuesOnRungs.class.getDeclaredField(name);
            field.setAccessible(true);
            read(field.get(x), text.append(' ').append(name));
        }
        return text.toString();
    }

    private static void read(Object value, StringBuilder text) throws ReflectiveOperationException {
        if (value.getClass().isArray()) {
            for (int i = 0; i < Array.getLength(value); i++) {
                read(Array.get(value, i), text.append(','));
            }
        } else if (value instanceof Number || value instanceof Boolean) {
            text.append(value);
        } else {
            for (Field field : value.getClass().getDeclaredFields()) {
                if (!Modifier.isStatic(field.getModifiers())) {
                    field.setAccessible(true);
                    read(field.get(value), text.append(' ').append(field.getName()).append('='));
                }
            }
        }
    }

    private void refused(String what, long want, LongSupplier call) throws ReflectiveOperationException {
        String ahead = kept(x);
        CHECKS.due(what, call.getAsLong(), want);
        CHECKS.due(what + ": changes nothing", kept(x).equals(ahead) ? 1 : 0, 1);
    }

    private void changesNothing(String what, LongSupplier call) throws ReflectiveOperationException {
        String ahead = kept(x);
        call.getAsLong();
        CHECKS.due(what + ": changes nothing", kept(x).equals(ahead) ? 1 : 0, 1);
    }

    private void days() throws ReflectiveOperationException {
        refused("2: FULL", Books.FULL, () -> x.due(FREE_DAY, 1));
        refused("3: FULL", Books.FULL, () -> x.rate(FREE_DAY, 0));
        refused("4: FULL", Books.FULL, () -> x.limit(FREE_DAY, 0));
        for (int v : Books.outside(0, 99)) {
            refused("2: BAD: v " + v, Books.BAD, () -> x.due(10, v));
        }
        for (int v : Books.outside(-1, 3)) {
            refused("3: BAD: v " + v, Books.BAD, () -> x.rate(10, v));
        }
        for (int v : Books.outside(-1, 99)) {
            refused("4: BAD: v " + v, Books.BAD, () -> x.limit(10, v));
        }
        for (int day : Books.outside(1, 60)) {
            for (int v = -1; v <= 1; v++) {
                int number = v;
                refused("2: BAD: day " + day, Books.BAD, () -> x.due(day, number));
                refused("3: BAD: day " + day, Books.BAD, () -> x.rate(day, number));
                refused("4: BAD: day " + day, Books.BAD, () -> x.limit(day, number));
            }
        }
    }

    private void bonds() throws ReflectiveOperationException {
        refused("7: FULL", Books.FULL, () -> x.bond(0, 1, 0, 1, 1, 1));
        int[] low = {0, 1, 0, 1, 1, 1};
        int[] high = {5, 99, 9, 30, 60, 60};
        for (int k = 0; k < 6; k++) {
            for (int v : Books.outside(low[k], high[k])) {
                int[] a = low.clone();
                a[k] = v;
                refused("7: BAD: " + k + " is " + v, Books.BAD, () -> x.bond(a[0], a[1], a[2], a[3], a[4], a[5]));
            }
        }
        for (int bond : Books.outside(0, 4)) {
            refused("8: BAD: bond " + bond, Books.BAD, () -> x.hold(bond, 1));
        }
        for (int n : Books.outside(0, 99)) {
            refused("8: BAD: n " + n, Books.BAD, () -> x.hold(4, n));
        }
    }

    private void sheets() throws ReflectiveOperationException {
        for (int bad : Books.outside(0, 3)) {
            refused("26: BAD: sheet " + bad, Books.BAD, () -> x.film(bad));
            refused("30: BAD: sheet " + bad, Books.BAD, () -> x.sheet(bad, 1, 1));
            refused("31: BAD: sheet " + bad, Books.BAD, () -> x.put(bad, 0, 1));
            refused("32: BAD: sheet " + bad, Books.BAD, () -> x.copy(bad, 0, 0, 1, 1));
            refused("32: BAD: other " + bad, Books.BAD, () -> x.copy(0, 0, bad, 1, 1));
            refused("33: BAD: sheet " + bad, Books.BAD, () -> x.load(bad, 1, 0, 1));
        }
        for (int sheet = 0; sheet < 4; sheet++) {
            int s = sheet;
            refused("30: BAD: sort -2", Books.BAD, () -> x.sheet(s, -2, 1));
            refused("30: BAD: sort 2", Books.BAD, () -> x.sheet(s, 2, 1));
            refused("30: BAD: n 41", Books.BAD, () -> x.sheet(s, 0, 41));
            refused("30: -14", Books.BELOW_NOTHING, () -> x.sheet(s, 1, -1));
        }
        refused("31: -11", Books.MISSING, () -> x.put(3, 0, 1));
        refused("31: -12: ints", Books.OUTSIDE, () -> x.put(0, 6, 1));
        refused("31: -12: bytes", Books.OUTSIDE, () -> x.put(1, -1, 1));
        refused("32: -11: from", Books.MISSING, () -> x.copy(3, 0, 0, 0, 1));
        refused("32: -11: to", Books.MISSING, () -> x.copy(0, 0, 3, 0, 1));
        refused("32: -13", Books.OTHER_SORT, () -> x.copy(0, 0, 1, 0, 1));
        refused("32: -12: from", Books.OUTSIDE, () -> x.copy(0, 5, 2, 0, 2));
        refused("32: -12: to", Books.OUTSIDE, () -> x.copy(0, 0, 2, 2, 2));
        refused("32: -12: n", Books.OUTSIDE, () -> x.copy(0, 0, 2, 2, -1));
        refused("32: -12: over itself", Books.OUTSIDE, () -> x.copy(0, 0, 0, 3, 4));
    }

    private void loads() throws ReflectiveOperationException {
        refused("33: BAD: sort -1", Books.BAD, () -> x.load(0, -1, 0, 1));
        refused("33: BAD: sort 2", Books.BAD, () -> x.load(0, 2, 0, 1));
        refused("33: BAD: n -1", Books.BAD, () -> x.load(0, 1, 0, -1));
        refused("33: BAD: n 6", Books.BAD, () -> x.load(0, 1, 0, 6));
        refused("33: -13", Books.OTHER_SORT, () -> x.load(0, 0, 0, 1));
        refused("33: -11", Books.MISSING, () -> x.load(3, 0, 0, 1));
        refused("33: -12 of the first", Books.OUTSIDE, () -> x.load(2, 1, 2, 1));
        refused("33: all are left out", 0, () -> x.load(0, 1, 0, 3));
    }

    private void noBonds() throws ReflectiveOperationException {
        refused("8: BAD: no bonds", Books.BAD, () -> x.hold(0, 1));
        refused("28: STATE", Books.STATE, () -> x.back());
        refused("31: -11", Books.MISSING, () -> x.put(0, 0, 1));
        refused("32: -11", Books.MISSING, () -> x.copy(0, 0, 0, 0, 0));
        refused("33: -11", Books.MISSING, () -> x.load(0, 0, 0, 1));
    }

    private void asking() throws ReflectiveOperationException {
        for (int k = -3; k <= 12; k++) {
            int a = k;
            for (int j = -2; j <= 9; j++) {
                int b = j;
                changesNothing("5: rung", () -> x.rung(a, b));
                changesNothing("6: day", () -> x.day(a, b));
                changesNothing("9: told", () -> x.told(a, b));
                changesNothing("10: pays", () -> x.pays(a, b));
                changesNothing("11: paysAt", () -> x.paysAt(a, b));
                changesNothing("12: taken", () -> x.taken(a, b));
                changesNothing("13: ranked", () -> x.ranked(a, b));
                changesNothing("14: worth", () -> x.worth(a, b));
                changesNothing("15: length", () -> x.length(a, b, 0));
                changesNothing("18: amount", () -> x.amount(a, b));
                changesNothing("19: proof", () -> x.proof(a, b, 0));
            }
            changesNothing("16: surplus", () -> x.surplus(a));
            changesNothing("17: least", () -> x.least());
            changesNothing("29: count", () -> x.count(a));
        }
    }

    private void askingReplays() throws ReflectiveOperationException {
        for (int k = -3; k <= 24; k++) {
            int a = k;
            for (int j = -2; j <= 4; j++) {
                int b = j;
                changesNothing("20: ladder", () -> x.ladder(b, a));
                changesNothing("21: replay", () -> x.replay(b, a));
                changesNothing("24: chance", () -> x.chance(a, 20, b));
                changesNothing("25: tells", () -> x.tells(b, a, 0));
            }
            changesNothing("22: worst", () -> x.worst(a));
            changesNothing("23: drawn", () -> x.drawn(a));
        }
    }
}
