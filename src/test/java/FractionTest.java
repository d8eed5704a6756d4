import java.lang.reflect.Constructor;
import java.lang.reflect.Field;
import java.lang.reflect.Method;
import java.math.BigInteger;
import java.util.Random;

/**
 * The fractions inside the class, at edges that calls hardly come to: numbers near the greatest
 * long, sums that are none though their products are. Held against BigIntegers.
 */
public final class FractionTest {
    private static final Checks CHECKS = new Checks("FractionTest");
    private static final BigInteger GREATEST = BigInteger.valueOf(Long.MAX_VALUE);
    private static final int PAIRS = 60000;

    private final Constructor<?> maker;
    private final Field above;
    private final Field below;
    private final Field great;
    private final Method become;
    private final Method becomeOther;
    private final Method compare;
    private final Class<?> type;
    private final Random random = new Random(7);

    private FractionTest() throws Exception {
        type = Class.forName("DuesOnRungs$Fraction");
        maker = type.getDeclaredConstructor();
        maker.setAccessible(true);
        above = field("above");
        below = field("below");
        great = field("great");
        become = method("become", long.class, long.class);
        becomeOther = method("become", type);
        compare = method("compare", type);
    }

    private Field field(String name) throws Exception {
        Field f = type.getDeclaredField(name);
        f.setAccessible(true);
        return f;
    }

    private Method method(String name, Class<?>... types) throws Exception {
        Method m = type.getDeclaredMethod(name, types);
        m.setAccessible(true);
        return m;
    }

    public static void main(String[] args) throws Exception {
        FractionTest test = new FractionTest();
        test.edges();
        test.words();
        for (int k = 0; k < PAIRS; k++) {
            test.pair(test.number(), test.positive(), test.number(), test.positive());
        }
        CHECKS.end();
    }

    private Object fraction(long a, long b) throws Exception {
        Object f = maker.newInstance();
        become.invoke(f, a, b);
        return f;
    }

    /** Of any size, often near a power of 2 or the greatest long. */
    private long positive() {
        long x = (random.nextLong() >>> 1) >>> random.nextInt(63);
        switch (random.nextInt(6)) {
            case 0:
                x = Long.MAX_VALUE - random.nextInt(3);
                break;
            case 1:
                x = (1L << random.nextInt(63)) + random.nextInt(3) - 1;
                break;
            case 2:
                x = 1 + random.nextInt(12);
                break;
            default:
                break;
        }
        return Math.max(1, x);
    }

    private long number() {
        return random.nextInt(9) == 0 ? 0 : random.nextBoolean() ? positive() : -positive();
    }

    private void edges() throws Exception {
        long most = Long.MAX_VALUE;
        long[] numbers = {0, 1, -1, 2, -2, 3, most, -most, most / 2, most / 2 + 1, -most / 2 - 1, most - 1, 3037000499L,
            3037000500L, -3037000500L};
        for (long a : numbers) {
            for (long c : numbers) {
                pair(a, 1, c, 1);
                pair(a, 2, c, 2);
                pair(a, 3, c, most);
                pair(a, most, c, 2);
            }
        }
        Object none = fraction(Long.MIN_VALUE, 1);
        CHECKS.due("the least long is GREAT", great.getBoolean(none) ? 1 : 0, 1);
        Object other = fraction(1, 3);
        becomeOther.invoke(other, none);
        CHECKS.due("one that becomes a GREAT one is GREAT", great.getBoolean(other) ? 1 : 0, 1);
        for (String name : new String[] {"add", "multiply", "divide"}) {
            Object f = fraction(1, 3);
            method(name, type).invoke(f, none);
            CHECKS.due(name + " with a GREAT one", great.getBoolean(f) ? 1 : 0, 1);
            method(name, type).invoke(f, fraction(1, 1));
            CHECKS.due(name + " behind that", great.getBoolean(f) ? 1 : 0, 1);
            CHECKS.due(name + ": nothing is told", (long) method("part", int.class).invoke(f, 0), Long.MIN_VALUE);
            become.invoke(f, 4, 6);
            CHECKS.due(name + ": it begins anew", (long) method("part", int.class).invoke(f, 0), 2);
        }
        Object f = fraction(6, 4);
        method("multiply", type).invoke(f, f);
        CHECKS.due("a fraction times itself, above", above.getLong(f), 9);
        CHECKS.due("a fraction times itself, below", below.getLong(f), 4);
    }

    /** What the document's words on FRACTIONS name, one by one. */
    private void words() throws Exception {
        long most = Long.MAX_VALUE;
        long half = 1L << 62;
        long root = 3037000499L;
        is("a sum that is just the greatest long", "add", most - 1, 1, 1, 1, false);
        is("a sum that is no long", "add", most, 1, 1, 1, true);
        is("a sum that is one above Long.MIN_VALUE", "add", -most + 1, 1, -1, 1, false);
        is("a sum that is Long.MIN_VALUE", "add", -most, 1, -1, 1, true);
        is("a sum that is below Long.MIN_VALUE", "add", -most, 1, -2, 1, true);
        is("a sum of half and half that is Long.MIN_VALUE", "add", -half, 1, -half, 1, true);
        is("nothing and the greatest long", "add", 0, 1, most, 1, false);
        is("a product that is just a long", "multiply", root, 1, root, 1, false);
        is("a product that is no long", "multiply", root + 1, 1, root + 1, 1, true);
        is("a product that is Long.MIN_VALUE", "multiply", half, 1, -2, 1, true);
        is("a product that is one above it", "multiply", most, 1, -1, 1, false);
        is("below the line a product that is just a long", "multiply", 1, root, 1, root, false);
        is("below the line a product that is no long", "multiply", 1, root + 1, 1, root + 1, true);
        is("the products come ahead of lowest terms", "multiply", half - 1, 7, 7, half - 1, true);
        is("in a sum too: below the line", "add", 1, root + 1, 1, root + 1, true);
        is("in a sum too: above the line", "add", half, 3, -half, 3, true);
        is("nothing by a great number is in lowest terms ahead", "multiply", 0, most, 1, 2, false);
        is("nothing times what is great below the line", "multiply", 0, 1, 1, most, false);
        is("divided by one that is below 0", "divide", 1, root, -root, 1, false);
        is("divided, below the line no long", "divide", 1, root + 1, -root - 1, 1, true);
        Object nothing = fraction(0, most);
        CHECKS.due("nothing: 0", above.getLong(nothing), 0);
        CHECKS.due("nothing: by 1", below.getLong(nothing), 1);
        Object turned = fraction(2, 3);
        method("divide", type).invoke(turned, fraction(-4, 9));
        CHECKS.due("turned round: above has the sign", above.getLong(turned), -3);
        CHECKS.due("turned round: below is above 0", below.getLong(turned), 2);
        Object stale = fraction(1, 3);
        become.invoke(stale, Long.MIN_VALUE, 1L);
        for (String name : new String[] {"add", "multiply", "divide"}) {
            Object f = fraction(1, 3);
            method(name, type).invoke(f, stale);
            CHECKS.due(name + " with one that has become GREAT", great.getBoolean(f) ? 1 : 0, 1);
        }
    }

    private void is(String what, String name, long a, long b, long c, long d, boolean isGreat) throws Exception {
        Object f = fraction(a, b);
        method(name, type).invoke(f, fraction(c, d));
        CHECKS.due("FRACTIONS: " + what, great.getBoolean(f) ? 1 : 0, isGreat ? 1 : 0);
    }

    private static boolean isLong(BigInteger... numbers) {
        for (BigInteger x : numbers) {
            if (x.abs().compareTo(GREATEST) > 0) {
                return false;
            }
        }
        return true;
    }

    private void pair(long a, long b, long c, long d) throws Exception {
        Object one = fraction(a, b);
        Object other = fraction(c, d);
        BigInteger p = BigInteger.valueOf(above.getLong(one));
        BigInteger q = BigInteger.valueOf(below.getLong(one));
        BigInteger r = BigInteger.valueOf(above.getLong(other));
        BigInteger s = BigInteger.valueOf(below.getLong(other));
        String text = p + "/" + q + " and " + r + "/" + s;
        CHECKS.due("lowest terms of " + a + "/" + b, p.gcd(q).longValueExact(), 1);
        CHECKS.due("as much as " + a + "/" + b,
            p.multiply(BigInteger.valueOf(b)).compareTo(q.multiply(BigInteger.valueOf(a))), 0);
        CHECKS.due("which is less of " + text, Integer.signum((int) compare.invoke(one, other)),
            p.multiply(s).compareTo(r.multiply(q)));
        becomes(text, "add", one, other, isLong(p.multiply(s), r.multiply(q), p.multiply(s).add(r.multiply(q)), q.multiply(s)),
            p.multiply(s).add(r.multiply(q)), q.multiply(s));
        becomes(text, "multiply", one, other, isLong(p.multiply(r), q.multiply(s)), p.multiply(r), q.multiply(s));
        if (r.signum() != 0) {
            BigInteger sign = BigInteger.valueOf(r.signum());
            becomes(text, "divide", one, other, isLong(p.multiply(s), q.multiply(r)), p.multiply(s).multiply(sign),
                q.multiply(r).multiply(sign));
        }
    }

    private void becomes(String text, String name, Object one, Object other, boolean isLong, BigInteger up, BigInteger down)
            throws Exception {
        Object f = maker.newInstance();
        becomeOther.invoke(f, one);
        method(name, type).invoke(f, other);
        CHECKS.due(name + ", GREAT: " + text, great.getBoolean(f) ? 1 : 0, isLong ? 0 : 1);
        if (isLong) {
            BigInteger g = up.gcd(down);
            CHECKS.due(name + ", above: " + text, above.getLong(f), up.divide(g).longValueExact());
            CHECKS.due(name + ", below: " + text, below.getLong(f), down.divide(g).longValueExact());
        }
    }
}
