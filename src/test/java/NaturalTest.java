import java.lang.reflect.Constructor;
import java.lang.reflect.Field;
import java.lang.reflect.Method;
import java.math.BigInteger;

/**
 * The whole numbers inside the class, by reflection, against BigInteger: with digits at the ends of their
 * range, which runs of calls hardly ever bring up, and which a division's rare turns need. How the class
 * holds its numbers is free: where it has none such, there is nothing to test here.
 */
public final class NaturalTest {
    private static final int BITS = 31;
    private static final int[] ENDS = {0, 0, 1, 2, (1 << 30) - 1, 1 << 30, (1 << 30) + 1, Integer.MAX_VALUE - 1, Integer.MAX_VALUE};
    private static int wrong = 0;
    private static long state = 4711;
    private static Class<?> type;
    private static Constructor<?> constructor;
    private static Field digits;
    private static Field size;

    public static void main(String[] args) throws Exception {
        for (Class<?> c : SpeedKernel.class.getDeclaredClasses()) {
            type = c.getSimpleName().equals("Natural") ? c : type;
        }
        if (type == null) {
            System.out.println("SpeedKernel has no class Natural");
            return;
        }
        constructor = type.getDeclaredConstructor();
        constructor.setAccessible(true);
        digits = type.getDeclaredField("digits");
        digits.setAccessible(true);
        size = type.getDeclaredField("size");
        size.setAccessible(true);
        for (int turn = 0; turn < 200000 && wrong < 10; turn++) {
            oneTurn(some(1 + below(9)), some(1 + below(5)));
        }
        for (int turn = 0; turn < 20000 && wrong < 10; turn++) {
            nearMultiple();
        }
        longest();
        System.out.println(wrong == 0 ? "all answers are as due" : wrong + " answers are not as due");
        if (wrong != 0) {
            System.exit(1);
        }
    }

    private static int below(int bound) {
        state = state * 6364136223846793005L + 1442695040888963407L;
        return (int) ((state >>> 33) % bound);
    }

    private static BigInteger some(int length) {
        BigInteger sum = BigInteger.ZERO;
        for (int i = 0; i < length; i++) {
            int digit = below(4) == 0 ? below(Integer.MAX_VALUE) : ENDS[below(ENDS.length)];
            sum = sum.shiftLeft(BITS).add(BigInteger.valueOf(digit));
        }
        return sum;
    }

    private static Object natural(BigInteger value) throws Exception {
        Object n = constructor.newInstance();
        int[] row = (int[]) digits.get(n);
        java.util.Arrays.fill(row, -1);
        int count = 0;
        for (BigInteger rest = value; rest.signum() > 0; rest = rest.shiftRight(BITS)) {
            row[count] = rest.intValue() & Integer.MAX_VALUE;
            count++;
        }
        size.setInt(n, count);
        return n;
    }

    /** Its value, or -1 where a digit is out of its range or the first one is 0. */
    private static BigInteger value(Object n) throws Exception {
        int[] row = (int[]) digits.get(n);
        int count = size.getInt(n);
        BigInteger sum = BigInteger.ZERO;
        for (int i = count - 1; i >= 0; i--) {
            if (row[i] < 0 || (i == count - 1 && row[i] == 0)) {
                return BigInteger.ONE.negate();
            }
            sum = sum.shiftLeft(BITS).add(BigInteger.valueOf(row[i]));
        }
        return sum;
    }

    private static Object call(Object n, String name, Object... arguments) throws Exception {
        for (Method m : type.getDeclaredMethods()) {
            if (m.getName().equals(name)) {
                m.setAccessible(true);
                return m.invoke(n, arguments);
            }
        }
        throw new NoSuchMethodException(name);
    }

    private static void due(String what, Object got, Object want) {
        if (!got.equals(want)) {
            wrong++;
            System.out.println(what + " answered " + got + ", due is " + want);
        }
    }

    private static void oneTurn(BigInteger a, BigInteger b) throws Exception {
        Object sum = natural(a);
        call(sum, "add", natural(b));
        due(a + " + " + b, value(sum), a.add(b));
        Object rest = natural(a.max(b));
        call(rest, "takeOff", natural(a.min(b)));
        due(a + " - " + b, value(rest), a.subtract(b).abs());
        Object product = natural(b);
        call(product, "setProduct", natural(a), natural(b));
        due(a + " * " + b, value(product), a.multiply(b));
        int factor = below(3) == 0 ? ENDS[below(ENDS.length)] : below(100000);
        Object multiple = natural(a);
        call(multiple, "times", factor);
        due(a + " * " + factor, value(multiple), a.multiply(BigInteger.valueOf(factor)));
        due(a + " against " + b, call(natural(a), "order", natural(b)), a.compareTo(b));
        due("zero " + b, call(natural(b), "isZero"), b.signum() == 0);
        due("one " + b, call(natural(b), "isOne"), b.equals(BigInteger.ONE));
        long small = b.longValue() >>> 2;
        Object set = natural(a);
        call(set, "setSmall", small);
        due("setSmall(" + small + ")", value(set), BigInteger.valueOf(small));
        due("asLong of " + small, call(set, "asLong"), small);
        divide(a, b);
        divide(b, a);
    }

    private static void divide(BigInteger a, BigInteger b) throws Exception {
        if (b.signum() == 0) {
            return;
        }
        Object rest = natural(a);
        Object quotient = natural(BigInteger.ONE);
        call(rest, "divideBy", natural(b), quotient, natural(BigInteger.TEN));
        due(a + " / " + b, value(quotient), a.divide(b));
        due(a + " % " + b, value(rest), a.mod(b));
        if (b.bitLength() <= BITS) {
            Object small = natural(a);
            due(a + " % " + b, call(small, "divideSmall", b.intValue()), a.mod(b).intValue());
            due(a + " / " + b, value(small), a.divide(b));
        }
    }

    /** Just below a multiple the guess of a digit is too high most often. */
    private static void nearMultiple() throws Exception {
        BigInteger b = some(2 + below(4));
        BigInteger a = b.multiply(some(1 + below(4))).subtract(BigInteger.valueOf(below(3)));
        if (a.signum() >= 0) {
            divide(a, b);
        }
        BigInteger half = BigInteger.ONE.shiftLeft(3 * BITS - 1);
        divide(half.shiftLeft(BITS).add(BigInteger.valueOf(below(5))), half.add(BigInteger.valueOf(1 + below(5))));
    }

    /** As long as the greatest products of the document may become. */
    private static void longest() throws Exception {
        BigInteger a = BigInteger.ONE.shiftLeft(447).subtract(BigInteger.ONE);
        BigInteger b = BigInteger.ONE.shiftLeft(399).subtract(BigInteger.ONE);
        oneTurn(a, b);
        Object product = natural(BigInteger.ZERO);
        call(product, "setProduct", natural(a), natural(b));
        due("the longest product", value(product), a.multiply(b));
        divide(a.multiply(b), b);
    }
}
