import java.math.BigInteger;
import java.util.ArrayList;
import java.util.List;

/**
 * Long runs of calls, each answer compared with that of a model which follows the document's words
 * literally, time by time, in BigIntegers. The runs come from a fixed row of numbers.
 */
public final class ModelTest {
    private static final int RUNS = 300;
    /** Nothing is promised of an object's later calls. */
    private static final int CALLS = 512;
    private static int wrong = 0;

    public static void main(String[] args) {
        for (int run = 0; run < RUNS && wrong < 20; run++) {
            new Run(run).go();
        }
        System.out.println(wrong == 0 ? "all answers are as due" : wrong + " answers are not as due");
        if (wrong != 0) {
            System.exit(1);
        }
    }

    /** The exact fractions of the model. */
    private static final class Frac implements Comparable<Frac> {
        static final Frac ZERO = new Frac(BigInteger.ZERO, BigInteger.ONE);
        final BigInteger top;
        final BigInteger below;

        Frac(BigInteger n, BigInteger d) {
            BigInteger g = n.gcd(d);
            top = n.divide(g);
            below = d.divide(g);
        }

        static Frac of(long n, long d) {
            return new Frac(BigInteger.valueOf(n), BigInteger.valueOf(d));
        }

        Frac plus(Frac o) {
            return new Frac(top.multiply(o.below).add(o.top.multiply(below)), below.multiply(o.below));
        }

        Frac minus(Frac o) {
            return new Frac(top.multiply(o.below).subtract(o.top.multiply(below)), below.multiply(o.below));
        }

        Frac times(Frac o) {
            return new Frac(top.multiply(o.top), below.multiply(o.below));
        }

        Frac over(Frac o) {
            return new Frac(top.multiply(o.below), below.multiply(o.top));
        }

        boolean isZero() {
            return top.signum() == 0;
        }

        @Override
        public int compareTo(Frac o) {
            return top.multiply(o.below).compareTo(o.top.multiply(below));
        }

        double near() {
            return top.doubleValue() / below.doubleValue();
        }

        String text() {
            return below.equals(BigInteger.ONE) ? top.toString() : top + "/" + below;
        }
    }

    /** What comes of one profile. */
    private static final class Outcome {
        final Frac[] speedAt = new Frac[200];
        final int[] worker = new int[200];
        Frac[] end;
        Frac[] jobSpeed;
        final List<int[]> steps = new ArrayList<>();
        final List<Frac> speeds = new ArrayList<>();
        Frac cost = Frac.ZERO;
    }

    private static final class Model {
        final List<int[]> jobs = new ArrayList<>();
        final List<int[]> levels = new ArrayList<>();
        Outcome plan;
        Outcome ahead;
        int[][] pair;
        Frac[][] share;
        Frac splitCost;
        String printed = "";

        int job(int r, int d, int w) {
            if (r < 0 || r > 200 || d < 0 || d > 200 || d <= r || w < 1 || w > 1000 || jobs.size() == 12) {
                return -1;
            }
            jobs.add(new int[] {r, d, w});
            plan = null;
            ahead = null;
            pair = null;
            return jobs.size() - 1;
        }

        int level(int rate, int cost) {
            boolean told = rate >= 1 && rate <= 10000 && cost >= 0 && cost <= 1000000;
            if (!told || levels.size() == 8 || (!levels.isEmpty() && levels.get(levels.size() - 1)[0] >= rate)) {
                return -1;
            }
            levels.add(new int[] {rate, cost});
            pair = null;
            return levels.size();
        }

        int convex() {
            Frac before = null;
            int rate = 0;
            int cost = 0;
            for (int[] l : levels) {
                Frac slope = Frac.of(l[1] - cost, l[0] - rate);
                if (before != null && slope.compareTo(before) < 0) {
                    return 0;
                }
                before = slope;
                rate = l[0];
                cost = l[1];
            }
            return 1;
        }

        int clear() {
            int n = jobs.size();
            jobs.clear();
            levels.clear();
            plan = null;
            ahead = null;
            pair = null;
            return n;
        }

        int about(int what, int i) {
            if (what == 0) {
                return jobs.size();
            }
            if (what == 1) {
                return levels.size();
            }
            if (what >= 2 && what <= 4 && i >= 0 && i < jobs.size()) {
                return jobs.get(i)[what - 2];
            }
            if ((what == 5 || what == 6) && i >= 0 && i < levels.size()) {
                return levels.get(i)[what - 5];
            }
            return -1;
        }

        int plan() {
            pair = null;
            plan = follow(densest());
            holdsBest(plan);
            return plan.steps.size();
        }

        int ahead() {
            ahead = follow(null);
            return ahead.steps.size();
        }

        /** The textbook's way: the densest stretch is cut out of time, and so on. */
        Frac[] densest() {
            Frac[] at = new Frac[200];
            List<Integer> times = new ArrayList<>();
            for (int t = 0; t < 200; t++) {
                at[t] = Frac.ZERO;
                times.add(t);
            }
            List<int[]> open = new ArrayList<>();
            for (int[] j : jobs) {
                open.add(j.clone());
            }
            while (!open.isEmpty()) {
                int[] best = null;
                Frac most = null;
                for (int[] p : open) {
                    for (int[] q : open) {
                        int work = 0;
                        for (int[] j : open) {
                            work += j[0] >= p[0] && j[1] <= q[1] ? j[2] : 0;
                        }
                        if (q[1] > p[0] && (most == null || Frac.of(work, q[1] - p[0]).compareTo(most) > 0)) {
                            most = Frac.of(work, q[1] - p[0]);
                            best = new int[] {p[0], q[1]};
                        }
                    }
                }
                int from = best[0];
                int to = best[1];
                for (int k = from; k < to; k++) {
                    at[times.get(k)] = most;
                }
                for (int k = from; k < to; k++) {
                    times.remove(from);
                }
                List<int[]> rest = new ArrayList<>();
                for (int[] j : open) {
                    if (j[0] < from || j[1] > to) {
                        rest.add(new int[] {cut(j[0], from, to), cut(j[1], from, to), j[2]});
                    }
                }
                open = rest;
            }
            return at;
        }

        static int cut(int t, int from, int to) {
            return t <= from ? t : t >= to ? t - (to - from) : from;
        }

        /** Works time by time at the speeds told, or, where none are, at those of AHEAD. */
        Outcome follow(Frac[] told) {
            Outcome o = new Outcome();
            int n = jobs.size();
            o.end = new Frac[n];
            o.jobSpeed = new Frac[n];
            Frac[] left = new Frac[n];
            int first = 200;
            int last = 0;
            for (int i = 0; i < n; i++) {
                left[i] = Frac.of(jobs.get(i)[2], 1);
                first = Math.min(first, jobs.get(i)[0]);
                last = Math.max(last, jobs.get(i)[1]);
            }
            for (int t = 0; t < 200; t++) {
                o.worker[t] = -1;
                o.speedAt[t] = told != null ? told[t] : aheadAt(t, left);
                Frac s = o.speedAt[t];
                Frac now = Frac.of(t, 1);
                Frac next = Frac.of(t + 1, 1);
                while (now.compareTo(next) < 0 && !s.isZero()) {
                    int who = -1;
                    for (int i = 0; i < n; i++) {
                        boolean open = jobs.get(i)[0] <= t && !left[i].isZero();
                        if (open && (who < 0 || jobs.get(i)[1] < jobs.get(who)[1])) {
                            who = i;
                        }
                    }
                    if (who < 0) {
                        throw new RuntimeException("model: speed for nobody");
                    }
                    if (now.compareTo(Frac.of(t, 1)) == 0) {
                        o.worker[t] = who;
                    }
                    Frac need = left[who].over(s);
                    Frac room = next.minus(now);
                    Frac takes = need.compareTo(room) < 0 ? need : room;
                    left[who] = left[who].minus(takes.times(s));
                    now = now.plus(takes);
                    if (told != null && o.jobSpeed[who] != null && o.jobSpeed[who].compareTo(s) != 0) {
                        throw new RuntimeException("model: a job with two speeds");
                    }
                    o.jobSpeed[who] = s;
                    if (left[who].isZero()) {
                        o.end[who] = now;
                    }
                }
            }
            for (int i = 0; i < n; i++) {
                if (o.end[i] == null || o.end[i].compareTo(Frac.of(jobs.get(i)[1], 1)) > 0) {
                    throw new RuntimeException("model: a job is late");
                }
            }
            for (int t = first; t < last; t++) {
                if (t == first || o.speedAt[t].compareTo(o.speedAt[t - 1]) != 0) {
                    o.steps.add(new int[] {t, t + 1});
                    o.speeds.add(o.speedAt[t]);
                } else {
                    o.steps.get(o.steps.size() - 1)[1] = t + 1;
                }
            }
            for (int t = 0; t < 200; t++) {
                if ((t < first || t >= last) && !o.speedAt[t].isZero()) {
                    throw new RuntimeException("model: speed outside");
                }
            }
            for (int i = 0; i < o.steps.size(); i++) {
                Frac s = o.speeds.get(i);
                Frac length = Frac.of(o.steps.get(i)[1] - o.steps.get(i)[0], 1);
                o.cost = o.cost.plus(length.times(s).times(s).times(s));
            }
            return o;
        }

        Frac aheadAt(int t, Frac[] left) {
            Frac best = Frac.ZERO;
            for (int d = t + 1; d <= 200; d++) {
                Frac sum = Frac.ZERO;
                boolean any = false;
                for (int i = 0; i < left.length; i++) {
                    if (jobs.get(i)[0] <= t && jobs.get(i)[1] <= d) {
                        sum = sum.plus(left[i]);
                        any |= jobs.get(i)[1] == d;
                    }
                }
                Frac s = sum.over(Frac.of(d - t, 1));
                if (any && s.compareTo(best) > 0) {
                    best = s;
                }
            }
            return best;
        }

        /** A good profile is the cheapest, if no job could be worked on at a lesser speed than its own. */
        void holdsBest(Outcome o) {
            for (int i = 0; i < jobs.size(); i++) {
                for (int t = jobs.get(i)[0]; t < jobs.get(i)[1]; t++) {
                    if (o.speedAt[t].compareTo(o.jobSpeed[i]) < 0) {
                        throw new RuntimeException("model: not the cheapest");
                    }
                }
            }
        }

        String split() {
            if (plan == null) {
                return "IllegalStateException";
            }
            pair = null;
            int n = jobs.size();
            int[][] p = new int[n][2];
            Frac[][] x = new Frac[n][2];
            Frac sum = Frac.ZERO;
            for (int i = 0; i < n; i++) {
                Frac s = plan.jobSpeed[i];
                Frac work = Frac.of(jobs.get(i)[2], 1);
                Frac time = work.over(s);
                int k = 0;
                while (k < levels.size() && Frac.of(levels.get(k)[0], 1).compareTo(s) < 0) {
                    k++;
                }
                if (k == levels.size()) {
                    return "0";
                }
                Frac high = Frac.of(levels.get(k)[0], 1);
                Frac highCost = Frac.of(levels.get(k)[1], 1);
                if (high.compareTo(s) == 0) {
                    p[i] = new int[] {k, k};
                    x[i] = new Frac[] {time, Frac.ZERO};
                    sum = sum.plus(time.times(highCost));
                    continue;
                }
                Frac low = k == 0 ? Frac.ZERO : Frac.of(levels.get(k - 1)[0], 1);
                Frac lowCost = k == 0 ? Frac.ZERO : Frac.of(levels.get(k - 1)[1], 1);
                Frac fast = work.minus(low.times(time)).over(high.minus(low));
                Frac slow = time.minus(fast);
                p[i] = new int[] {k - 1, k};
                x[i] = new Frac[] {slow, fast};
                sum = sum.plus(slow.times(lowCost)).plus(fast.times(highCost));
            }
            pair = p;
            share = x;
            splitCost = sum;
            return "1";
        }

        String step(int kind, int i, int part) {
            if (kind < 0 || kind > 1 || part < 0 || part > 1) {
                return "IllegalArgumentException";
            }
            Outcome o = kind == 0 ? plan : ahead;
            if (o == null || i < 0 || i >= o.steps.size()) {
                return "IndexOutOfBoundsException";
            }
            return String.valueOf(o.steps.get(i)[part]);
        }

        Frac fraction(int what, int i) {
            boolean job = i >= 0 && i < jobs.size();
            switch (what) {
                case 0:
                    return plan != null && i >= 0 && i < plan.steps.size() ? plan.speeds.get(i) : null;
                case 1:
                    return ahead != null && i >= 0 && i < ahead.steps.size() ? ahead.speeds.get(i) : null;
                case 2:
                    return plan != null && job ? plan.end[i] : null;
                case 3:
                    return ahead != null && job ? ahead.end[i] : null;
                case 4:
                    return plan != null && job ? plan.jobSpeed[i] : null;
                case 5:
                case 6:
                    return pair != null && job ? share[i][what - 5] : null;
                case 7:
                    return plan != null && i == 0 ? plan.cost : null;
                case 8:
                    return ahead != null && i == 0 ? ahead.cost : null;
                case 9:
                    return pair != null && i == 0 ? splitCost : null;
                default:
                    return null;
            }
        }

        int print(int what, int i) {
            Frac f = fraction(what, i);
            if (f == null) {
                return -1;
            }
            printed = f.text();
            return printed.length();
        }

        int character(int i) {
            return i >= 0 && i < printed.length() ? printed.charAt(i) : -1;
        }

        int compare(int what, int i, int with, int k) {
            Frac f = fraction(what, i);
            Frac g = fraction(with, k);
            return f == null || g == null ? -2 : f.compareTo(g);
        }

        int levelOf(int job, int part) {
            boolean is = pair != null && job >= 0 && job < jobs.size() && part >= 0 && part <= 1;
            return is ? pair[job][part] : -2;
        }

        double near() {
            double sum = 0;
            for (int i = 0; plan != null && i < plan.steps.size(); i++) {
                double s = plan.speeds.get(i).near();
                double length = plan.steps.get(i)[1] - plan.steps.get(i)[0];
                sum = sum + length * ((s * s) * s);
            }
            return sum;
        }

        double speed(double t) {
            for (int i = 0; plan != null && i < plan.steps.size(); i++) {
                if (plan.steps.get(i)[0] <= t && plan.steps.get(i)[1] > t) {
                    return plan.speeds.get(i).near();
                }
            }
            return 0;
        }

        int working(int kind, int t) {
            Outcome o = kind == 0 ? plan : kind == 1 ? ahead : null;
            return o == null || t < 0 || t >= 200 ? -1 : o.worker[t];
        }

        int check() {
            return plan == null ? -1 : 1;
        }
    }

    private static final class RunIsOver extends RuntimeException {
    }

    /** One object, its model, and a row of calls. */
    private static final class Run {
        private static final int[] ODD = {Integer.MIN_VALUE, -1000, -3, -2, -1, 12, 13, 24, 199, 200, 201, Integer.MAX_VALUE};
        private static final double[] ODD_TIMES = {Double.NaN, Double.NEGATIVE_INFINITY, Double.POSITIVE_INFINITY, -0.0,
            -Double.MIN_VALUE, Double.MIN_VALUE, 199.99999999999997, 200.0, 1e300, -1e300};
        private final int number;
        private long state;
        private final SpeedKernel kernel = new SpeedKernel();
        private final Model model = new Model();
        private int calls = 0;
        private final StringBuilder said = new StringBuilder();

        Run(int number) {
            this.number = number;
            state = number * 7919L + 17;
        }

        int below(int bound) {
            state = state * 6364136223846793005L + 1442695040888963407L;
            return (int) ((state >>> 33) % bound);
        }

        void go() {
            try {
                play();
            } catch (RunIsOver e) {
                return;
            }
        }

        void play() {
            while (wrong < 20) {
                makeJobs();
                if (below(3) > 0) {
                    makeLevels();
                }
                look(below(40));
                if (below(8) > 0) {
                    due("plan()", kernel.plan(), model.plan());
                    look(below(20));
                }
                if (below(8) > 0) {
                    due("ahead()", kernel.ahead(), model.ahead());
                    look(below(20));
                }
                split();
                readAll();
                look(60);
                if (below(3) == 0) {
                    makeLevels();
                    split();
                    look(40);
                }
                if (below(4) > 0) {
                    due("clear()", kernel.clear(), model.clear());
                }
            }
        }

        void due(String call, Object got, Object want) {
            calls++;
            said.append(call).append(' ').append(got).append("; ");
            if (!got.equals(want)) {
                wrong++;
                System.out.println("run " + number + ": " + said + "due is " + want);
            }
            if (calls == CALLS) {
                throw new RunIsOver();
            }
        }

        void makeJobs() {
            int kind = below(6);
            int count = below(10) == 0 ? 0 : 1 + below(kind == 5 ? 3 : 13);
            int wide = 2 + below(kind == 0 ? 8 : 199);
            for (int i = 0; i < count; i++) {
                int r = below(wide);
                int d = r + 1 + below(wide);
                int w = 1 + below(kind == 1 ? 4 : 1000);
                if (kind == 2) {
                    r = i * (1 + below(8));
                    d = 200 - i * (1 + below(8));
                } else if (kind == 3) {
                    r = i * (1 + below(3));
                    d = r + 1 + below(30);
                } else if (kind == 4) {
                    r = 5 * below(4);
                    d = r + 5 * (1 + below(4));
                    w = 10 * (1 + below(6));
                }
                if (below(25) == 0) {
                    w = below(2) == 0 ? ODD[below(ODD.length)] : 1001;
                }
                if (below(25) == 0) {
                    r = ODD[below(ODD.length)];
                }
                if (below(25) == 0) {
                    d = ODD[below(ODD.length)];
                }
                due("job(" + r + ", " + d + ", " + w + ")", kernel.job(r, d, w), model.job(r, d, w));
            }
        }

        void makeLevels() {
            int count = below(10);
            int rate = 0;
            boolean low = below(2) == 0;
            for (int i = 0; i < count; i++) {
                rate += below(low ? 30 : 3000) + (below(10) == 0 ? 0 : 1);
                int cost = below(3) == 0 ? below(1000001) : rate * (below(3) + rate / 4);
                if (below(30) == 0) {
                    cost = below(2) == 0 ? ODD[below(ODD.length)] : 1000001;
                }
                int r = below(30) == 0 ? ODD[below(ODD.length)] : rate;
                due("level(" + r + ", " + cost + ")", kernel.level(r, cost), model.level(r, cost));
                if (below(2) == 0) {
                    due("convex()", kernel.convex(), model.convex());
                }
            }
        }

        void split() {
            String got;
            try {
                got = String.valueOf(kernel.split());
            } catch (IllegalStateException e) {
                got = e.getClass().getSimpleName();
            }
            due("split()", got, model.split());
        }

        void step(int kind, int i, int part) {
            String got;
            try {
                got = String.valueOf(kernel.step(kind, i, part));
            } catch (IndexOutOfBoundsException | IllegalArgumentException e) {
                got = e.getClass().getSimpleName();
            }
            due("step(" + kind + ", " + i + ", " + part + ")", got, model.step(kind, i, part));
        }

        void print(int what, int i) {
            due("print(" + what + ", " + i + ")", kernel.print(what, i), model.print(what, i));
        }

        /** Some index, often one that there is, now and then a wild one. */
        int some(int bound) {
            return below(12) == 0 ? ODD[below(ODD.length)] : below(bound);
        }

        void readAll() {
            int what = below(10);
            print(what, what < 7 ? below(5) : 0);
            for (int i = 0; i < 20 && i < model.printed.length(); i++) {
                int at = model.printed.length() < 20 ? i : below(model.printed.length());
                due("character(" + at + ")", kernel.character(at), model.character(at));
            }
        }

        void look(int count) {
            for (int turn = 0; turn < count; turn++) {
                int what = below(12) == 0 ? ODD[below(ODD.length)] : below(11);
                int i = what > 6 && below(8) > 0 ? 0 : some(14);
                switch (below(11)) {
                    case 0:
                        due("about(" + what + ", " + i + ")", kernel.about(what, i), model.about(what, i));
                        break;
                    case 1:
                        step(below(15) == 0 ? some(4) : below(2), some(12), below(15) == 0 ? some(4) : below(2));
                        break;
                    case 2:
                        print(what, i);
                        break;
                    case 3:
                        int at = some(30);
                        due("character(" + at + ")", kernel.character(at), model.character(at));
                        break;
                    case 4:
                        int with = below(3) == 0 ? what : below(10);
                        int k = with > 6 ? 0 : some(13);
                        due("compare(" + what + ", " + i + ", " + with + ", " + k + ")",
                            kernel.compare(what, i, with, k), model.compare(what, i, with, k));
                        break;
                    case 5:
                        int part = below(10) == 0 ? some(4) : below(2);
                        due("levelOf(" + i + ", " + part + ")", kernel.levelOf(i, part), model.levelOf(i, part));
                        break;
                    case 6:
                        due("near()", kernel.near(), model.near());
                        break;
                    case 7:
                        double t = below(6) == 0 ? ODD_TIMES[below(ODD_TIMES.length)] : below(1610) / 8.0 - 0.5;
                        due("speed(" + t + ")", kernel.speed(t), model.speed(t));
                        break;
                    case 8:
                        int time = below(3) == 0 ? some(40) : below(202) - 1;
                        int kind = below(15) == 0 ? some(4) : below(2);
                        due("working(" + kind + ", " + time + ")", kernel.working(kind, time), model.working(kind, time));
                        break;
                    case 9:
                        due("check()", kernel.check(), model.check());
                        break;
                    default:
                        due("convex()", kernel.convex(), model.convex());
                        break;
                }
            }
        }
    }
}
