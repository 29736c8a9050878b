import java.lang.management.ManagementFactory;
import java.lang.reflect.Constructor;
import java.lang.reflect.Field;
import java.lang.reflect.Method;
import java.lang.reflect.Modifier;
import java.math.BigInteger;
import java.util.Arrays;
import java.util.TreeSet;

/** The longest numbers that a search has found, the room that calls need, and the face of the class. */
public final class LimitsTest {
    private static final int[][][] LONG_COSTS = {
        {{0, 196, 991}, {3, 66, 103}, {89, 102, 886}, {5, 111, 506}, {32, 135, 735}, {15, 152, 150}, {21, 66, 698},
            {1, 2, 973}, {50, 149, 743}, {20, 199, 834}, {52, 71, 957}, {36, 88, 883}},
        {{0, 199, 882}, {2, 33, 146}, {9, 200, 24}, {6, 132, 957}, {70, 79, 626}, {21, 191, 618}, {19, 69, 403},
            {33, 64, 962}, {135, 158, 956}, {8, 107, 439}, {10, 198, 151}, {11, 15, 971}},
        {{0, 200, 1000}, {1, 199, 999}, {2, 198, 998}, {3, 197, 997}, {4, 196, 996}, {5, 195, 995}, {6, 194, 994},
            {7, 193, 993}, {8, 192, 992}, {9, 191, 991}, {10, 190, 990}, {11, 189, 989}},
        {{0, 1, 1000}, {0, 1, 1000}, {0, 1, 1000}, {0, 1, 1000}, {0, 1, 1000}, {0, 1, 1000}, {0, 1, 1000},
            {0, 1, 1000}, {0, 1, 1000}, {0, 1, 1000}, {0, 1, 1000}, {0, 1, 1000}}};
    private static final String[] FACE = {"about(int,int):int", "ahead():int", "character(int):int", "check():int",
        "clear():int", "compare(int,int,int,int):int", "convex():int", "job(int,int,int):int", "level(int,int):int",
        "levelOf(int,int):int", "near():double", "plan():int", "print(int,int):int", "speed(double):double",
        "split():int throws java.lang.IllegalStateException",
        "step(int,int,int):int throws java.lang.IllegalArgumentException java.lang.IndexOutOfBoundsException",
        "working(int,int):int"};
    private static final long ROOM_ELEMENTS = 7300000;
    private static int wrong = 0;

    public static void main(String[] args) {
        for (int[][] jobs : LONG_COSTS) {
            costsAreTheStepsCosts(jobs);
        }
        splitAtAllWidths();
        callsStayInTheRoom();
        theFaceIsTheDocuments();
        System.out.println(wrong == 0 ? "all answers are as due" : wrong + " answers are not as due");
        if (wrong != 0) {
            System.exit(1);
        }
    }

    private static void due(String what, Object got, Object want) {
        if (!got.equals(want)) {
            wrong++;
            System.out.println(what + ": " + got + ", due is " + want);
        }
    }

    private static SpeedKernel kernel(int[][] jobs) {
        SpeedKernel x = new SpeedKernel();
        for (int[] j : jobs) {
            x.job(j[0], j[1], j[2]);
        }
        return x;
    }

    private static BigInteger[] fraction(SpeedKernel x, int what, int i) {
        int length = x.print(what, i);
        StringBuilder all = new StringBuilder();
        for (int k = 0; k < length; k++) {
            all.append((char) x.character(k));
        }
        String[] parts = all.toString().split("/");
        return new BigInteger[] {new BigInteger(parts[0]), parts.length > 1 ? new BigInteger(parts[1]) : BigInteger.ONE};
    }

    /** A sum with a fraction added, in least terms. */
    private static BigInteger[] plus(BigInteger[] sum, BigInteger above, BigInteger under) {
        BigInteger top = sum[0].multiply(under).add(above.multiply(sum[1]));
        BigInteger below = sum[1].multiply(under);
        BigInteger common = top.gcd(below);
        return new BigInteger[] {top.divide(common), below.divide(common)};
    }

    private static BigInteger[] plusCube(BigInteger[] sum, int length, BigInteger[] s) {
        return plus(sum, s[0].pow(3).multiply(BigInteger.valueOf(length)), s[1].pow(3));
    }

    private static int allWork(int[][] jobs) {
        int sum = 0;
        for (int[] j : jobs) {
            sum += j[2];
        }
        return sum;
    }

    /** To be read just once: a long fraction's characters are many of the 512 calls. */
    private static SpeedKernel workedOut(int[][] jobs) {
        SpeedKernel x = kernel(jobs);
        x.plan();
        x.ahead();
        return x;
    }

    private static void costsAreTheStepsCosts(int[][] jobs) {
        SpeedKernel x = kernel(jobs);
        int[] steps = {x.plan(), x.ahead()};
        for (int kind = 0; kind < 2; kind++) {
            BigInteger[] sum = {BigInteger.ZERO, BigInteger.ONE};
            BigInteger[] work = {BigInteger.ZERO, BigInteger.ONE};
            for (int i = 0; i < steps[kind]; i++) {
                int length = x.step(kind, i, 1) - x.step(kind, i, 0);
                BigInteger[] s = fraction(workedOut(jobs), kind, i);
                sum = plusCube(sum, length, s);
                work = plus(work, BigInteger.valueOf(length).multiply(s[0]), s[1]);
            }
            due("work", Arrays.toString(work), "[" + allWork(jobs) + ", 1]");
            due("cost", Arrays.toString(fraction(workedOut(jobs), 7 + kind, 0)), Arrays.toString(sum));
            due("cost against itself", x.compare(7 + kind, 0, 7 + kind, 0), 0);
        }
        due("check()", x.check(), 1);
        due("plan against AHEAD", x.compare(7, 0, 8, 0), steps[1] == 1 ? 0 : -1);
    }

    /** Groups and levels that make the number below the split plan's cost long. */
    private static void splitAtAllWidths() {
        int[] widths = {1, 2, 3, 5, 7, 11, 13, 17, 19, 23, 29};
        SpeedKernel x = new SpeedKernel();
        int[] rates = {997, 1988, 2971, 3948, 4919, 5886, 6839, 7786};
        for (int i = 0; i < 8; i++) {
            x.level(rates[i], 1000000 - i);
        }
        int from = 0;
        for (int i = 0; i < widths.length; i++) {
            x.job(from, from + widths[i], 1000 - i);
            from += widths[i];
        }
        x.plan();
        due("split()", x.split(), 1);
        BigInteger[] sum = {BigInteger.ZERO, BigInteger.ONE};
        for (int i = 0; i < widths.length; i++) {
            for (int part = 0; part < 2; part++) {
                BigInteger[] time = fraction(x, 5 + part, i);
                BigInteger cost = BigInteger.valueOf(Math.max(0, x.about(6, x.levelOf(i, part))));
                sum = plus(sum, time[0].multiply(cost), time[1]);
            }
        }
        due("split cost", Arrays.toString(fraction(x, 9, 0)), Arrays.toString(sum));
    }

    private static long made() {
        com.sun.management.ThreadMXBean bean = (com.sun.management.ThreadMXBean) ManagementFactory.getThreadMXBean();
        return bean.getThreadAllocatedBytes(Thread.currentThread().getId());
    }

    /** One object and 512 calls: 14 to tell it of jobs and levels, 498 of the dearest. */
    private static void aWholeRun() {
        SpeedKernel x = kernel(LONG_COSTS[0]);
        x.level(3, 1);
        x.level(10000, 1000000);
        for (int i = 0; i < 83; i++) {
            x.plan();
            x.ahead();
            x.split();
            x.check();
            x.print(8, 0);
            x.compare(7, 0, 8, 0);
        }
    }

    /** All calls of one run live in one room; an element takes four bytes at least. */
    private static void callsStayInTheRoom() {
        aWholeRun();
        long before = made();
        aWholeRun();
        long bytes = made() - before;
        if (bytes > ROOM_ELEMENTS * 4) {
            wrong++;
            System.out.println("512 calls made objects of " + bytes + " bytes");
        }
    }

    private static void theFaceIsTheDocuments() {
        Class<?> face = SpeedKernel.class;
        due("class", Modifier.toString(face.getModifiers()), "public final");
        TreeSet<String> names = new TreeSet<>();
        for (Method m : face.getDeclaredMethods()) {
            if (Modifier.isPrivate(m.getModifiers()) || m.isSynthetic()) {
                continue;
            }
            due("method " + m.getName(), Modifier.toString(m.getModifiers()), "public");
            StringBuilder text = new StringBuilder(m.getName()).append('(');
            for (int i = 0; i < m.getParameterCount(); i++) {
                text.append(i > 0 ? "," : "").append(m.getParameterTypes()[i].getName());
            }
            text.append("):").append(m.getReturnType().getName());
            TreeSet<String> thrown = new TreeSet<>();
            for (Class<?> t : m.getExceptionTypes()) {
                thrown.add(t.getName());
            }
            if (!thrown.isEmpty()) {
                text.append(" throws ").append(String.join(" ", thrown));
            }
            names.add(text.toString());
        }
        due("methods", names.toString(), Arrays.toString(FACE));
        for (Constructor<?> c : face.getDeclaredConstructors()) {
            boolean hidden = Modifier.isPrivate(c.getModifiers()) || c.isSynthetic();
            if (!hidden) {
                due("constructor", c.toString(), "public SpeedKernel()");
            }
        }
        for (Field f : face.getDeclaredFields()) {
            boolean hidden = Modifier.isPrivate(f.getModifiers()) || f.isSynthetic();
            if (!hidden) {
                due("field", f.toString(), "public static final int SpeedKernel.NONE");
            }
            if (Modifier.isStatic(f.getModifiers())) {
                due("static " + f.getName() + " is final", Modifier.isFinal(f.getModifiers()), true);
            }
        }
        for (Class<?> c : face.getDeclaredClasses()) {
            boolean shown = Modifier.isPublic(c.getModifiers()) || Modifier.isProtected(c.getModifiers());
            due("class " + c.getName() + " is public or protected", shown, false);
        }
    }
}
