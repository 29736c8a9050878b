/** Each promise of the document by answers reckoned by hand: ordinary inputs, edges, wrong inputs. */
public final class PromisesTest {
    private static final int LEAST = Integer.MIN_VALUE;
    private static final int MOST = Integer.MAX_VALUE;
    private static int wrong = 0;
    private static int promise = 0;

    public static void main(String[] args) {
        promise1NewObject();
        promise2Job();
        promise2JobForgetsPlans();
        promise3Level();
        promise3LevelForgetsSplit();
        promise4Convex();
        promise5Clear();
        promise6About();
        promise7Plan();
        promise7SlackAndGaps();
        promise8Ahead();
        promise9Split();
        promise10Step();
        promise11Print();
        promise12Character();
        promise13Compare();
        promise14LevelOf();
        promise15Near();
        promise16Speed();
        promise17Working();
        promise18Check();
        System.out.println(wrong == 0 ? "all answers are as due" : wrong + " answers are not as due");
        if (wrong != 0) {
            System.exit(1);
        }
    }

    private static void due(String call, Object got, Object want) {
        if (!got.equals(want)) {
            wrong++;
            System.out.println("promise " + promise + ": " + call + " answered " + got + ", due is " + want);
        }
    }

    private static SpeedKernel kernel(int... jobs) {
        SpeedKernel x = new SpeedKernel();
        for (int i = 0; i + 2 < jobs.length; i += 3) {
            due("job", x.job(jobs[i], jobs[i + 1], jobs[i + 2]), i / 3);
        }
        return x;
    }

    /** What print() prints, or "none". */
    private static String text(SpeedKernel x, int what, int i) {
        int length = x.print(what, i);
        if (length < 0) {
            return length == SpeedKernel.NONE ? "none" : "wrong " + length;
        }
        StringBuilder all = new StringBuilder();
        for (int k = 0; k < length; k++) {
            all.append((char) x.character(k));
        }
        due("character behind the last", x.character(length), -1);
        return all.toString();
    }

    private static void texts(SpeedKernel x, int what, String... wants) {
        for (int i = 0; i < wants.length; i++) {
            due("print(" + what + ", " + i + ")", text(x, what, i), wants[i]);
        }
        due("print(" + what + ", " + wants.length + ")", text(x, what, wants.length), "none");
        due("print(" + what + ", -1)", text(x, what, -1), "none");
    }

    private static String step(SpeedKernel x, int kind, int i, int part) {
        try {
            return String.valueOf(x.step(kind, i, part));
        } catch (IndexOutOfBoundsException e) {
            return e.getClass() == IndexOutOfBoundsException.class ? "index" : e.toString();
        } catch (IllegalArgumentException e) {
            return e.getClass() == IllegalArgumentException.class ? "argument" : e.toString();
        }
    }

    private static String split(SpeedKernel x) {
        try {
            return String.valueOf(x.split());
        } catch (IllegalStateException e) {
            return e.getClass() == IllegalStateException.class ? "state" : e.toString();
        }
    }

    /** The times at which steps begin, and the end of the last one. */
    private static void bounds(SpeedKernel x, int kind, int... wants) {
        for (int i = 0; i + 1 < wants.length; i++) {
            due("step(" + kind + ", " + i + ", 0)", step(x, kind, i, 0), String.valueOf(wants[i]));
            due("step(" + kind + ", " + i + ", 1)", step(x, kind, i, 1), String.valueOf(wants[i + 1]));
        }
        due("step behind the last", step(x, kind, wants.length - 1, 0), "index");
    }

    private static void nothingIsWorkedOut(SpeedKernel x) {
        nothingIsPlanned(x);
        nothingIsAhead(x);
        nothingIsSplit(x);
    }

    private static void nothingIsPlanned(SpeedKernel x) {
        for (int what : new int[] {0, 2, 4, 7}) {
            due("print(" + what + ", 0)", x.print(what, 0), -1);
            due("compare(" + what + ", 0, " + what + ", 0)", x.compare(what, 0, what, 0), -2);
        }
        due("step(0, 0, 0)", step(x, 0, 0, 0), "index");
        due("split()", split(x), "state");
        due("near()", x.near(), 0.0);
        due("check()", x.check(), -1);
        for (int t = 0; t < 200; t += 3) {
            due("speed(" + t + ")", x.speed(t), 0.0);
            due("working(0, " + t + ")", x.working(0, t), -1);
        }
    }

    private static void nothingIsAhead(SpeedKernel x) {
        for (int what : new int[] {1, 3, 8}) {
            due("print(" + what + ", 0)", x.print(what, 0), -1);
            due("compare(" + what + ", 0, " + what + ", 0)", x.compare(what, 0, what, 0), -2);
        }
        due("step(1, 0, 1)", step(x, 1, 0, 1), "index");
        for (int t = 0; t < 200; t += 3) {
            due("working(1, " + t + ")", x.working(1, t), -1);
        }
    }

    private static void nothingIsSplit(SpeedKernel x) {
        for (int what : new int[] {5, 6, 9}) {
            due("print(" + what + ", 0)", x.print(what, 0), -1);
            due("compare(" + what + ", 0, " + what + ", 0)", x.compare(what, 0, what, 0), -2);
        }
        due("levelOf(0, 0)", x.levelOf(0, 0), -2);
        due("levelOf(0, 1)", x.levelOf(0, 1), -2);
    }

    private static void promise1NewObject() {
        promise = 1;
        SpeedKernel x = new SpeedKernel();
        due("NONE", SpeedKernel.NONE, -1);
        due("about(0, 0)", x.about(0, 0), 0);
        due("about(1, 0)", x.about(1, 0), 0);
        due("character(0)", x.character(0), -1);
        due("convex()", x.convex(), 1);
        nothingIsWorkedOut(x);
        due("clear()", x.clear(), 0);
        SpeedKernel y = kernel(0, 1, 1);
        y.plan();
        due("another object's jobs", x.about(0, 0), 0);
        due("another object's plan", x.check(), -1);
    }

    private static void promise2Job() {
        promise = 2;
        SpeedKernel x = new SpeedKernel();
        int[][] refused = {{-1, 5, 1}, {0, 201, 1}, {200, 201, 1}, {5, 5, 1}, {6, 5, 1}, {0, 10, 0}, {0, 10, -1},
            {0, 10, 1001}, {LEAST, 10, 1}, {0, MOST, 1}, {MOST, LEAST, 1}, {0, 10, MOST}, {0, 10, LEAST}, {0, -1, 1},
            {201, 202, 1}, {0, 0, 1}, {200, 200, 1}};
        for (int[] r : refused) {
            due("job(" + r[0] + ", " + r[1] + ", " + r[2] + ")", x.job(r[0], r[1], r[2]), -1);
        }
        due("about(0, 0)", x.about(0, 0), 0);
        due("job(0, 200, 1000)", x.job(0, 200, 1000), 0);
        due("job(199, 200, 1)", x.job(199, 200, 1), 1);
        for (int i = 2; i < 12; i++) {
            due("job(1, 2, 3)", x.job(1, 2, 3), i);
        }
        x.plan();
        due("a 13th job", x.job(1, 2, 3), -1);
        due("about(0, 0)", x.about(0, 0), 12);
        due("check() after a refused job", x.check(), 1);
    }

    private static void promise2JobForgetsPlans() {
        SpeedKernel x = kernel(0, 4, 4);
        x.level(1, 1);
        x.plan();
        x.ahead();
        x.split();
        x.job(4, 4, 1);
        due("check() after a refused job", x.check(), 1);
        due("levelOf(0, 0) after a refused job", x.levelOf(0, 0), 0);
        due("working(1, 0) after a refused job", x.working(1, 0), 0);
        due("job(5, 6, 1)", x.job(5, 6, 1), 1);
        nothingIsWorkedOut(x);
        x.ahead();
        nothingIsPlanned(x);
        nothingIsSplit(x);
    }

    private static void promise3Level() {
        promise = 3;
        SpeedKernel x = new SpeedKernel();
        int[][] refused = {{0, 5}, {-1, 5}, {10001, 5}, {5, -1}, {5, 1000001}, {LEAST, 0}, {MOST, 0}, {5, LEAST}, {5, MOST}};
        for (int[] r : refused) {
            due("level(" + r[0] + ", " + r[1] + ")", x.level(r[0], r[1]), -1);
        }
        due("about(1, 0)", x.about(1, 0), 0);
        due("level(1, 1000000)", x.level(1, 1000000), 1);
        due("level(1, 0)", x.level(1, 0), -1);
        due("level(3, 0)", x.level(3, 0), 2);
        due("level(2, 0)", x.level(2, 0), -1);
        for (int i = 3; i <= 7; i++) {
            due("level", x.level(i + 1, i), i);
        }
        due("level(10000, 9)", x.level(10000, 9), 8);
        due("about(1, 0)", x.about(1, 0), 8);
        SpeedKernel y = new SpeedKernel();
        for (int i = 1; i <= 8; i++) {
            due("level", y.level(i, i), i);
        }
        due("a 9th level", y.level(9, 9), -1);
        due("about(1, 0)", y.about(1, 0), 8);
    }

    private static void promise3LevelForgetsSplit() {
        SpeedKernel x = kernel(0, 4, 4);
        x.level(2, 3);
        x.plan();
        x.ahead();
        due("split()", split(x), "1");
        due("a refused level", x.level(2, 4), -1);
        due("levelOf(0, 1) after a refused level", x.levelOf(0, 1), 0);
        due("level(3, 9)", x.level(3, 9), 2);
        nothingIsSplit(x);
        due("check()", x.check(), 1);
        due("working(1, 0)", x.working(1, 0), 0);
    }

    private static void convex(int want, int... levels) {
        SpeedKernel x = new SpeedKernel();
        for (int i = 0; i < levels.length; i += 2) {
            x.level(levels[i], levels[i + 1]);
        }
        due("convex() of " + java.util.Arrays.toString(levels), x.convex(), want);
    }

    private static void promise4Convex() {
        promise = 4;
        convex(1);
        convex(1, 3, 7);
        convex(1, 2, 4, 4, 8);
        convex(0, 2, 4, 4, 7);
        convex(1, 2, 4, 4, 9);
        convex(1, 1, 0, 2, 0, 3, 5);
        convex(0, 1, 5, 2, 3);
        convex(0, 3, 7, 5, 9, 6, 20);
        convex(0, 1, 1, 2, 3, 3, 4, 4, 9);
        convex(0, 1, 0, 9999, 999999, 10000, 1000000);
        convex(1, 9999, 0, 10000, 1000000);
        convex(0, 9999, 1000000, 10000, 0);
        convex(1, 1, 1, 3, 5, 7, 13);
        convex(0, 1, 1, 3, 6, 7, 15);
    }

    private static void promise5Clear() {
        promise = 5;
        SpeedKernel x = kernel(0, 4, 4, 1, 3, 5);
        x.level(9, 9);
        x.plan();
        x.ahead();
        x.split();
        due("clear()", x.clear(), 2);
        due("about(0, 0)", x.about(0, 0), 0);
        due("about(1, 0)", x.about(1, 0), 0);
        due("about(2, 0)", x.about(2, 0), -1);
        due("about(5, 0)", x.about(5, 0), -1);
        nothingIsWorkedOut(x);
        due("clear()", x.clear(), 0);
        due("level(1, 1)", x.level(1, 1), 1);
        due("job(7, 8, 9)", x.job(7, 8, 9), 0);
        due("plan()", x.plan(), 1);
        bounds(x, 0, 7, 8);
        texts(x, 0, "9");
    }

    private static void promise6About() {
        promise = 6;
        SpeedKernel x = kernel(3, 9, 70, 0, 200, 1000);
        x.level(5, 6);
        x.level(7, 0);
        due("about(0, -9)", x.about(0, -9), 2);
        due("about(1, 99)", x.about(1, 99), 2);
        int[][] wants = {{2, 0, 3}, {3, 0, 9}, {4, 0, 70}, {2, 1, 0}, {3, 1, 200}, {4, 1, 1000}, {5, 0, 5}, {6, 0, 6},
            {5, 1, 7}, {6, 1, 0}};
        for (int[] w : wants) {
            due("about(" + w[0] + ", " + w[1] + ")", x.about(w[0], w[1]), w[2]);
        }
        for (int what = 2; what <= 6; what++) {
            for (int i : new int[] {-1, 2, 12, LEAST, MOST}) {
                due("about(" + what + ", " + i + ")", x.about(what, i), -1);
            }
        }
        for (int what : new int[] {-1, 7, LEAST, MOST}) {
            due("about(" + what + ", 0)", x.about(what, 0), -1);
        }
    }

    private static void promise7Plan() {
        promise = 7;
        SpeedKernel x = kernel(0, 10, 20, 2, 6, 32, 3, 5, 10, 6, 8, 4, 9, 20, 11);
        due("plan()", x.plan(), 4);
        bounds(x, 0, 0, 2, 6, 10, 20);
        texts(x, 0, "4", "21/2", "4", "11/10");
        texts(x, 2, "10", "6", "83/21", "7", "20");
        texts(x, 4, "4", "21/2", "21/2", "4", "11/10");
        texts(x, 7, "502781/100");
        due("plan() again", x.plan(), 4);
        texts(x, 7, "502781/100");
        SpeedKernel none = new SpeedKernel();
        due("plan() without jobs", none.plan(), 0);
        texts(none, 7, "0");
        due("check() without jobs", none.check(), 1);
        SpeedKernel y = kernel(0, 4, 4);
        y.level(1, 1);
        y.plan();
        y.ahead();
        y.split();
        y.plan();
        nothingIsSplit(y);
        due("working(1, 0)", y.working(1, 0), 0);
    }

    private static void promise7SlackAndGaps() {
        SpeedKernel x = kernel(0, 2, 2, 5, 6, 1);
        due("plan() with a gap", x.plan(), 3);
        bounds(x, 0, 0, 2, 5, 6);
        texts(x, 0, "1", "0", "1");
        SpeedKernel y = kernel(3, 5, 2, 5, 9, 4);
        due("plan() of one speed", y.plan(), 1);
        bounds(y, 0, 3, 9);
        SpeedKernel z = kernel(0, 4, 4, 2, 4, 4);
        due("plan() of two as dense", z.plan(), 1);
        texts(z, 0, "2");
        texts(z, 2, "2", "4");
        // the job from 2 on is cut off at 4 by the densest stretch, and then has the time from 4 to 6 alone
        SpeedKernel w = kernel(0, 4, 40, 2, 6, 6, 1, 8, 4);
        due("plan() round a dense stretch", w.plan(), 3);
        bounds(w, 0, 0, 4, 6, 8);
        texts(w, 0, "10", "3", "2");
        texts(w, 4, "10", "3", "2");
        texts(w, 2, "4", "6", "8");
    }

    private static void promise8Ahead() {
        promise = 8;
        SpeedKernel x = kernel(0, 4, 4, 2, 4, 4);
        due("ahead()", x.ahead(), 2);
        bounds(x, 1, 0, 2, 4);
        texts(x, 1, "1", "3");
        texts(x, 3, "8/3", "4");
        texts(x, 8, "56");
        nothingIsPlanned(x);
        SpeedKernel y = kernel(0, 4, 4, 1, 2, 9, 5, 7, 2);
        // at 1: 9 by 2, 12 by 4: 9; then 3 of the first job are left for the time from 2 to 4
        due("ahead() with a gap", y.ahead(), 5);
        bounds(y, 1, 0, 1, 2, 4, 5, 7);
        texts(y, 1, "1", "9", "3/2", "0", "1");
        texts(y, 3, "4", "2", "7");
        texts(y, 8, "2955/4");
        SpeedKernel z = kernel(0, 10, 10, 3, 10, 7, 5, 10, 1);
        // at 3 there are 7 and 7 left for 7, at 5 there are 3, 7 and 1 left for 5
        due("ahead()", z.ahead(), 3);
        texts(z, 1, "1", "2", "11/5");
        texts(z, 3, "70/11", "105/11", "10");
        // up to 6 job 0 is done (at 4), and 9 are left of job 1, 5 at 8
        SpeedKernel w = kernel(0, 12, 6, 0, 12, 12, 6, 12, 3, 8, 14, 2);
        due("ahead() that breaks off a second job", w.ahead(), 3);
        bounds(w, 1, 0, 6, 12, 14);
        texts(w, 1, "3/2", "2", "1");
        texts(w, 3, "4", "21/2", "12", "14");
        texts(w, 8, "281/4");
        due("working(1, 3)", w.working(1, 3), 0);
        due("working(1, 4)", w.working(1, 4), 1);
        due("working(1, 10)", w.working(1, 10), 1);
        due("working(1, 11)", w.working(1, 11), 2);
        SpeedKernel none = new SpeedKernel();
        due("ahead() without jobs", none.ahead(), 0);
        texts(none, 8, "0");
        due("step(1, 0, 0)", step(none, 1, 0, 0), "index");
    }

    private static void promise9Split() {
        promise = 9;
        SpeedKernel x = kernel(0, 4, 4, 2, 4, 4, 10, 14, 2);
        due("split() without a plan", split(x), "state");
        x.ahead();
        due("split() with AHEAD alone", split(x), "state");
        due("plan()", x.plan(), 3);
        due("split() without levels", split(x), "0");
        x.level(1, 2);
        due("split() with a slow level", split(x), "0");
        nothingIsSplit(x);
        x.level(2, 9);
        due("split() at a rate", split(x), "1");
        texts(x, 5, "2", "2", "2");
        texts(x, 6, "0", "0", "2");
        texts(x, 9, "40");
        x.level(4, 10);
        due("split()", split(x), "1");
        texts(x, 9, "40");
        splitAgain();
        SpeedKernel y = kernel(0, 4, 4, 2, 4, 4);
        y.plan();
        y.level(1, 3);
        y.level(4, 7);
        due("split()", split(y), "1");
        texts(y, 5, "4/3", "4/3");
        texts(y, 6, "2/3", "2/3");
        texts(y, 9, "52/3");
        y.clear();
        due("split() after clear()", split(y), "state");
        y.plan();
        due("split() without jobs and levels", split(y), "1");
        texts(y, 9, "0");
        due("levelOf(0, 0)", y.levelOf(0, 0), -2);
        splitAtTheEdge();
    }

    private static void splitAgain() {
        SpeedKernel x = kernel(0, 2, 6);
        x.plan();
        x.level(2, 4);
        x.level(4, 16);
        due("split() between rates", split(x), "1");
        texts(x, 5, "1");
        texts(x, 6, "1");
        texts(x, 9, "20");
        x.clear();
        x.job(0, 2, 6);
        x.plan();
        x.level(3, 7);
        due("split() at a rate", split(x), "1");
        due("split() at a rate again", split(x), "1");
        texts(x, 5, "2");
        texts(x, 6, "0");
        texts(x, 9, "14");
    }

    private static void splitAtTheEdge() {
        SpeedKernel x = kernel(0, 1, 1000, 0, 1, 1000, 0, 1, 1000, 0, 1, 1000, 0, 1, 1000);
        for (int i = 5; i < 10; i++) {
            x.job(0, 1, 1000);
        }
        x.plan();
        x.level(9999, 1000000);
        due("split() with 9999 for 10000", split(x), "0");
        x.level(10000, 1000000);
        due("split() with 10000 for 10000", split(x), "1");
        texts(x, 9, "1000000");
        x.job(0, 1, 1);
        x.plan();
        due("split() with 10000 for 10001", split(x), "0");
        SpeedKernel y = kernel(0, 2, 4, 5, 6, 9);
        y.level(3, 1);
        y.plan();
        due("split() with a level for the first job alone", split(y), "0");
        nothingIsSplit(y);
    }

    private static void promise10Step() {
        promise = 10;
        SpeedKernel x = kernel(2, 5, 9);
        due("step(0, 0, 0) without a plan", step(x, 0, 0, 0), "index");
        x.plan();
        due("step(1, 0, 0) without AHEAD", step(x, 1, 0, 0), "index");
        x.ahead();
        bounds(x, 0, 2, 5);
        bounds(x, 1, 2, 5);
        for (int i : new int[] {-1, 1, LEAST, MOST}) {
            due("step(0, " + i + ", 0)", step(x, 0, i, 0), "index");
            due("step(1, " + i + ", 1)", step(x, 1, i, 1), "index");
        }
        for (int bad : new int[] {-1, 2, LEAST, MOST}) {
            due("step(" + bad + ", 0, 0)", step(x, bad, 0, 0), "argument");
            due("step(0, 0, " + bad + ")", step(x, 0, 0, bad), "argument");
            due("step(" + bad + ", 99, 0)", step(x, bad, 99, 0), "argument");
            due("step(1, -1, " + bad + ")", step(x, 1, -1, bad), "argument");
        }
        due("step(0, 0, 1) after exceptions", step(x, 0, 0, 1), "5");
    }

    private static void promise11Print() {
        promise = 11;
        SpeedKernel x = kernel(0, 7, 3, 7, 9, 1000);
        x.plan();
        due("print(0, 0)", text(x, 0, 0), "3/7");
        for (int bad : new int[] {-1, 2, LEAST, MOST}) {
            due("print(0, " + bad + ")", x.print(0, bad), -1);
            due("print(2, " + bad + ")", x.print(2, bad), -1);
            due("print(7, " + bad + ")", x.print(7, bad), -1);
        }
        due("print(7, 1)", x.print(7, 1), -1);
        for (int what : new int[] {-1, 10, LEAST, MOST, 1, 3, 5, 6, 8, 9}) {
            due("print(" + what + ", 0)", x.print(what, 0), -1);
        }
        due("what was printed stays", x.character(0), (int) '3');
        due("what was printed stays", x.character(2), (int) '7');
        texts(x, 0, "3/7", "500");
        texts(x, 2, "7", "9");
        texts(x, 4, "3/7", "500");
        texts(x, 7, "12250000027/49");
        x.ahead();
        texts(x, 1, "3/7", "500");
        texts(x, 3, "7", "9");
        texts(x, 8, "12250000027/49");
        x.level(1, 1);
        x.level(1000, 1);
        x.split();
        texts(x, 5, "4", "1000/999");
        texts(x, 6, "3", "998/999");
        texts(x, 9, "5");
        SpeedKernel y = kernel(0, 1, 1000, 0, 1, 1000, 0, 1, 1000, 0, 1, 1000);
        y.plan();
        texts(y, 7, "64000000000");
        SpeedKernel z = kernel(0, 1, 1, 1, 3, 1, 3, 6, 1, 6, 11, 1, 11, 18, 1, 18, 29, 1, 29, 42, 1, 42, 59, 1);
        z.plan();
        texts(z, 7, "375074829229/260620460100");
    }

    private static void promise12Character() {
        promise = 12;
        SpeedKernel x = kernel(0, 7, 30, 8, 9, 6);
        due("character(0) before print()", x.character(0), -1);
        x.plan();
        due("character(0) before print()", x.character(0), -1);
        due("print(0, 0)", x.print(0, 0), 4);
        int[] wants = {'3', '0', '/', '7', -1};
        for (int i = 0; i < wants.length; i++) {
            due("character(" + i + ")", x.character(i), wants[i]);
        }
        for (int bad : new int[] {-1, LEAST, MOST}) {
            due("character(" + bad + ")", x.character(bad), -1);
        }
        due("print(0, 2)", x.print(0, 2), 1);
        due("character(0)", x.character(0), (int) '6');
        due("character(1), left from before", x.character(1), -1);
    }

    private static void promise13Compare() {
        promise = 13;
        SpeedKernel x = kernel(0, 3, 1, 3, 5, 1, 5, 8, 1);
        x.plan();
        due("1/3 against 1/2", x.compare(0, 0, 0, 1), -1);
        due("1/2 against 1/3", x.compare(0, 1, 0, 0), 1);
        due("1/3 against 1/3", x.compare(0, 0, 4, 2), 0);
        due("end 3 against cost 17/36", x.compare(2, 0, 7, 0), 1);
        due("without AHEAD", x.compare(7, 0, 8, 0), -2);
        x.ahead();
        due("the same cost", x.compare(7, 0, 8, 0), 0);
        due("not split", x.compare(9, 0, 9, 0), -2);
        x.level(1, 1);
        x.split();
        due("split cost 3 against end 3", x.compare(9, 0, 2, 0), 0);
        due("time 1 fast, 2 slowly", x.compare(6, 0, 5, 0), -1);
        int[][] bad = {{-1, 0}, {10, 0}, {0, -1}, {0, 3}, {2, 3}, {5, -1}, {6, 3}, {7, 1}, {8, 1}, {9, -1}, {LEAST, MOST}};
        for (int[] b : bad) {
            due("compare(" + b[0] + ", " + b[1] + ", 0, 0)", x.compare(b[0], b[1], 0, 0), -2);
            due("compare(0, 0, " + b[0] + ", " + b[1] + ")", x.compare(0, 0, b[0], b[1]), -2);
        }
    }

    private static void promise14LevelOf() {
        promise = 14;
        SpeedKernel x = kernel(0, 2, 1, 2, 3, 2, 3, 5, 7);
        x.level(2, 1);
        x.level(3, 1);
        x.level(4, 1);
        due("levelOf(0, 0) before split()", x.levelOf(0, 0), -2);
        x.plan();
        due("levelOf(0, 0) before split()", x.levelOf(0, 0), -2);
        due("split()", split(x), "1");
        int[][] wants = {{-1, 0}, {0, 0}, {1, 2}};
        for (int i = 0; i < 3; i++) {
            due("levelOf(" + i + ", 0)", x.levelOf(i, 0), wants[i][0]);
            due("levelOf(" + i + ", 1)", x.levelOf(i, 1), wants[i][1]);
        }
        for (int bad : new int[] {-1, 3, LEAST, MOST}) {
            due("levelOf(" + bad + ", 0)", x.levelOf(bad, 0), -2);
            due("levelOf(0, " + bad + ")", x.levelOf(0, bad), -2);
        }
        due("levelOf(0, 2)", x.levelOf(0, 2), -2);
        SpeedKernel y = kernel(0, 1, 9);
        y.level(10, 3);
        y.plan();
        y.split();
        due("split()", y.levelOf(0, 1), 0);
        y.job(0, 1, 9);
        y.plan();
        due("split() above all rates", split(y), "0");
        due("levelOf(0, 1) after that", y.levelOf(0, 1), -2);
    }

    private static void promise15Near() {
        promise = 15;
        SpeedKernel x = kernel(0, 3, 1, 3, 10, 10, 20, 43, 997);
        due("near() without a plan", x.near(), 0.0);
        x.ahead();
        due("near() with AHEAD alone", x.near(), 0.0);
        x.plan();
        double a = 1.0 / 3.0;
        double b = 10.0 / 7.0;
        double c = 997.0 / 23.0;
        double want = 0.0 + 3.0 * ((a * a) * a);
        want = want + 7.0 * ((b * b) * b);
        want = want + 10.0 * 0.0;
        want = want + 23.0 * ((c * c) * c);
        due("near()", x.near(), want);
        SpeedKernel y = kernel(0, 49, 10, 49, 98, 10);
        y.plan();
        double s = 10.0 / 49.0;
        due("near() of one step made of two stretches", y.near(), 98.0 * ((s * s) * s));
        SpeedKernel z = new SpeedKernel();
        z.plan();
        due("near() without jobs", z.near(), 0.0);
    }

    private static void promise16Speed() {
        promise = 16;
        SpeedKernel x = kernel(0, 3, 1, 5, 12, 10);
        due("speed(1.0) without a plan", x.speed(1.0), 0.0);
        x.plan();
        double a = 1.0 / 3.0;
        double b = 10.0 / 7.0;
        double[][] wants = {{0.0, a}, {-0.0, a}, {Double.MIN_VALUE, a}, {-Double.MIN_VALUE, 0}, {2.9999999999999996, a},
            {3.0, 0}, {4.999, 0}, {5.0, b}, {11.999999999999998, b}, {12.0, 0}, {200.0, 0}, {1e300, 0}, {-1.0, 0},
            {Double.NaN, 0}, {Double.POSITIVE_INFINITY, 0}, {Double.NEGATIVE_INFINITY, 0}};
        for (double[] w : wants) {
            due("speed(" + w[0] + ")", x.speed(w[0]), w[1]);
        }
        x.job(0, 1, 1);
        due("speed(1.0) after job()", x.speed(1.0), 0.0);
    }

    private static void promise17Working() {
        promise = 17;
        SpeedKernel x = kernel(0, 4, 4, 2, 4, 4, 10, 12, 3, 10, 12, 3);
        x.plan();
        int[] plan = {0, 0, 1, 1, -1, -1, -1, -1, -1, -1, 2, 3, -1};
        for (int t = 0; t < plan.length; t++) {
            due("working(0, " + t + ")", x.working(0, t), plan[t]);
            due("working(1, " + t + ") without AHEAD", x.working(1, t), -1);
        }
        x.ahead();
        // at 2 there are 2 left of job 0, which end at 8/3: job 1 is worked on at 3
        int[] ahead = {0, 0, 0, 1, -1, -1, -1, -1, -1, -1, 2, 3, -1};
        for (int t = 0; t < ahead.length; t++) {
            due("working(1, " + t + ")", x.working(1, t), ahead[t]);
        }
        for (int bad : new int[] {-1, 200, 201, LEAST, MOST}) {
            due("working(0, " + bad + ")", x.working(0, bad), -1);
            due("working(1, " + bad + ")", x.working(1, bad), -1);
        }
        for (int bad : new int[] {-1, 2, LEAST, MOST}) {
            due("working(" + bad + ", 0)", x.working(bad, 0), -1);
        }
        SpeedKernel y = kernel(0, 200, 1, 50, 60, 5, 55, 60, 5);
        y.plan();
        due("working(0, 0)", y.working(0, 0), 0);
        due("working(0, 199)", y.working(0, 199), 0);
        due("working(0, 49)", y.working(0, 49), 0);
        due("working(0, 50)", y.working(0, 50), 1);
        due("working(0, 55)", y.working(0, 55), 2);
        due("working(0, 60)", y.working(0, 60), 0);
    }

    private static void promise18Check() {
        promise = 18;
        SpeedKernel x = kernel(0, 10, 20, 2, 6, 32, 3, 5, 10, 6, 8, 4, 9, 20, 11);
        due("check() without a plan", x.check(), -1);
        x.ahead();
        due("check() with AHEAD alone", x.check(), -1);
        x.plan();
        due("check()", x.check(), 1);
        due("the plan costs less than AHEAD", x.compare(7, 0, 8, 0), -1);
        x.job(0, 200, 1);
        due("check() after job()", x.check(), -1);
        x.plan();
        due("check() without AHEAD", x.check(), 1);
        x.level(1, 1);
        due("check() after level()", x.check(), 1);
        x.clear();
        due("check() after clear()", x.check(), -1);
    }
}
