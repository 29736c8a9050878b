import java.util.Arrays;

/**
 * Plans of how fast to work: jobs with a release, a deadline and work, speeds that cost their cube.
 * All rows are made with the object and used again: no call makes an object, but for what it throws.
 */
public final class SpeedKernel {
    public static final int NONE = -1;

    private static final int MOST_JOBS = 12;
    private static final int MOST_LEVELS = 8;
    private static final int LAST_TIME = 200;
    private static final int MOST_WORK = 1000;
    private static final int MOST_RATE = 10000;
    private static final int MOST_COST = 1000000;
    private static final int NOT_COMPARED = -2;
    private static final int PLAN = 0;
    private static final int AHEAD = 1;

    /** Speeds change at releases and deadlines alone, and 24 times have 23 gaps between them. */
    private static final int MOST_STEPS = 2 * MOST_JOBS;

    /**
     * The longest number is a product of what AHEAD costs with what it costs, below 850 bits: below a
     * speed of AHEAD stand at most 11 lengths up to 200 of steps that a release broke off, and lengths
     * of whole steps, which are at most 200 together.
     */
    private static final int DIGITS = 32;
    private static final int DIGIT_BITS = 31;
    private static final long DIGIT_MASK = (1L << DIGIT_BITS) - 1;
    private static final int HALF_DIGIT = 1 << (DIGIT_BITS - 1);

    /** Euclid's way through numbers of DIGITS digits is shorter than this. */
    private static final int MOST_DIVISIONS = 10000;

    private static final int CHUNK = 1000000000;
    private static final int CHUNK_PLACES = 9;
    private static final int MOST_CHUNKS = 40;
    private static final int MOST_CHARACTERS = 2 * CHUNK_PLACES * MOST_CHUNKS + 1;

    private final Jobs jobs;
    private final Levels levels;
    private final Profile planned;
    private final Profile foreseen;
    private final Reckoner reckoner;
    private final Planner planner;
    private final Foresight foresight;
    private final Splitter splitter;
    private final Text text;

    public SpeedKernel() {
        jobs = new Jobs();
        levels = new Levels();
        planned = new Profile();
        foreseen = new Profile();
        reckoner = new Reckoner();
        planner = new Planner();
        foresight = new Foresight();
        splitter = new Splitter();
        text = new Text();
    }

    public int job(int release, int deadline, int work) {
        if (release < 0 || deadline > LAST_TIME || release >= deadline) {
            return NONE;
        }
        if (work < 1 || work > MOST_WORK || jobs.count >= MOST_JOBS) {
            return NONE;
        }
        forgetPlans();
        return jobs.add(release, deadline, work);
    }

    public int level(int rate, int cost) {
        if (rate < 1 || rate > MOST_RATE || cost < 0 || cost > MOST_COST) {
            return NONE;
        }
        if (levels.count >= MOST_LEVELS || rate <= levels.rateOf(levels.count - 1)) {
            return NONE;
        }
        splitter.ready = false;
        return levels.add(rate, cost);
    }

    public int convex() {
        return levels.areConvex() ? 1 : 0;
    }

    public int clear() {
        int before = jobs.count;
        forgetPlans();
        jobs.count = 0;
        levels.count = 0;
        return before;
    }

    public int about(int what, int i) {
        switch (what) {
            case 0:
                return jobs.count;
            case 1:
                return levels.count;
            case 2:
                return jobs.has(i) ? jobs.release[i] : NONE;
            case 3:
                return jobs.has(i) ? jobs.deadline[i] : NONE;
            case 4:
                return jobs.has(i) ? jobs.work[i] : NONE;
            case 5:
                return levels.has(i) ? levels.rateOf(i) : NONE;
            case 6:
                return levels.has(i) ? levels.costOf(i) : NONE;
            default:
                return NONE;
        }
    }

    public int plan() {
        splitter.ready = false;
        planner.workOut(jobs, planned);
        reckoner.reckonCost(planned);
        planned.ready = true;
        return planned.steps;
    }

    public int ahead() {
        foresight.workOut(jobs, foreseen, reckoner);
        reckoner.reckonCost(foreseen);
        foreseen.ready = true;
        return foreseen.steps;
    }

    public int split() throws IllegalStateException {
        if (!planned.ready) {
            throw new IllegalStateException();
        }
        return splitter.workOut(jobs, levels, planner, reckoner) ? 1 : 0;
    }

    public int step(int kind, int i, int part) throws IndexOutOfBoundsException, IllegalArgumentException {
        if ((kind != PLAN && kind != AHEAD) || (part != 0 && part != 1)) {
            throw new IllegalArgumentException();
        }
        Profile profile = kind == PLAN ? planned : foreseen;
        if (!profile.hasStep(i)) {
            throw new IndexOutOfBoundsException();
        }
        return part == 0 ? profile.begin[i] : profile.end[i];
    }

    public int print(int what, int i) {
        Fraction fraction = fractionOf(what, i);
        if (fraction == null) {
            return NONE;
        }
        return text.write(fraction);
    }

    public int character(int i) {
        return text.at(i);
    }

    public int compare(int what, int i, int with, int k) {
        Fraction one = fractionOf(what, i);
        Fraction other = fractionOf(with, k);
        if (one == null || other == null) {
            return NOT_COMPARED;
        }
        return reckoner.order(one, other);
    }

    public int levelOf(int job, int part) {
        if (!splitter.ready || !jobs.has(job) || (part != 0 && part != 1)) {
            return NONE - 1;
        }
        return part == 0 ? splitter.lesser[job] : splitter.greater[job];
    }

    public double near() {
        double sum = 0;
        for (int i = 0; i < MOST_STEPS && planned.hasStep(i); i++) {
            double s = planned.rate[i].asBinary();
            sum = sum + (planned.end[i] - planned.begin[i]) * ((s * s) * s);
        }
        return sum;
    }

    public double speed(double t) {
        for (int i = 0; i < MOST_STEPS && planned.hasStep(i); i++) {
            if (planned.begin[i] <= t && t < planned.end[i]) {
                return planned.rate[i].asBinary();
            }
        }
        return 0;
    }

    public int working(int kind, int t) {
        if (t < 0 || t >= LAST_TIME || (kind != PLAN && kind != AHEAD)) {
            return NONE;
        }
        Profile profile = kind == PLAN ? planned : foreseen;
        return profile.ready ? profile.worker[t] : NONE;
    }

    public int check() {
        if (!planned.ready) {
            return NONE;
        }
        reckoner.shareOut(planned);
        if (!leavesRoom() || !reckoner.doesJust(planned, jobs.allWork())) {
            return 0;
        }
        if (foreseen.ready && reckoner.order(planned.cost, foreseen.cost) > 0) {
            return 0;
        }
        return 1;
    }

    private void forgetPlans() {
        planned.ready = false;
        foreseen.ready = false;
        splitter.ready = false;
    }

    /** The fraction that print() and compare() name so, or null where there is none. */
    private Fraction fractionOf(int what, int i) {
        switch (what) {
            case 0:
                return planned.hasStep(i) ? planned.rate[i] : null;
            case 1:
                return foreseen.hasStep(i) ? foreseen.rate[i] : null;
            case 2:
                return planned.ready && jobs.has(i) ? planned.done[i] : null;
            case 3:
                return foreseen.ready && jobs.has(i) ? foreseen.done[i] : null;
            case 4:
                return planned.ready && jobs.has(i) ? planner.rateOf(i) : null;
            case 5:
                return splitter.ready && jobs.has(i) ? splitter.slowly[i] : null;
            case 6:
                return splitter.ready && jobs.has(i) ? splitter.fast[i] : null;
            case 7:
                return planned.ready && i == 0 ? planned.cost : null;
            case 8:
                return foreseen.ready && i == 0 ? foreseen.cost : null;
            case 9:
                return splitter.ready && i == 0 ? splitter.cost : null;
            default:
                return null;
        }
    }

    /** Whether the plan, shared out, does what must be done between each release and each deadline. */
    private boolean leavesRoom() {
        for (int i = 0; i < jobs.count; i++) {
            for (int k = 0; k < jobs.count; k++) {
                int from = jobs.release[i];
                int to = jobs.deadline[k];
                if (from < to && !reckoner.doesEnough(planned, from, to, jobs.workWithin(from, to))) {
                    return false;
                }
            }
        }
        return true;
    }

    /** The jobs, and their numbers in the order in which deadlines let them be worked on. */
    private static final class Jobs {
        private int count;
        private final int[] release = new int[MOST_JOBS];
        private final int[] deadline = new int[MOST_JOBS];
        private final int[] work = new int[MOST_JOBS];
        private final int[] byDeadline = new int[MOST_JOBS];

        boolean has(int i) {
            return i >= 0 && i < count;
        }

        int add(int from, int to, int much) {
            if (count >= MOST_JOBS) {
                return NONE;
            }
            release[count] = from;
            deadline[count] = to;
            work[count] = much;
            int place = count;
            while (place > 0 && deadline[byDeadline[place - 1]] > to) {
                byDeadline[place] = byDeadline[place - 1];
                place--;
            }
            byDeadline[place] = count;
            count++;
            return count - 1;
        }

        /** 0 without jobs. */
        int firstRelease() {
            return nextRelease(NONE, 0);
        }

        /** 0 without jobs. */
        int lastDeadline() {
            return count > 0 ? deadline[byDeadline[count - 1]] : 0;
        }

        /** The least release behind a time, or another time, where there is none. */
        int nextRelease(int behind, int otherwise) {
            int next = NONE;
            for (int i = 0; i < count; i++) {
                if (release[i] > behind && (next == NONE || release[i] < next)) {
                    next = release[i];
                }
            }
            return next == NONE ? otherwise : next;
        }

        boolean isWithin(int i, int from, int to) {
            return has(i) && release[i] >= from && deadline[i] <= to;
        }

        int workWithin(int from, int to) {
            int sum = 0;
            for (int i = 0; i < count; i++) {
                if (isWithin(i, from, to)) {
                    sum += work[i];
                }
            }
            return sum;
        }

        int allWork() {
            return workWithin(0, LAST_TIME);
        }
    }

    /** The levels; NONE stands for not to work: rate 0, which costs 0. */
    private static final class Levels {
        private int count;
        private final int[] rates = new int[MOST_LEVELS];
        private final int[] costs = new int[MOST_LEVELS];

        boolean has(int i) {
            return i >= 0 && i < count;
        }

        int rateOf(int i) {
            return has(i) ? rates[i] : 0;
        }

        int costOf(int i) {
            return has(i) ? costs[i] : 0;
        }

        int add(int rate, int cost) {
            if (count < MOST_LEVELS) {
                rates[count] = rate;
                costs[count] = cost;
                count++;
            }
            return count;
        }

        /** The least level at which some work is done in a time; NONE, if there is none. */
        int leastFor(int much, int time) {
            for (int i = 0; i < count; i++) {
                if (rateOf(i) * time >= much) {
                    return i;
                }
            }
            return NONE;
        }

        boolean areConvex() {
            for (int i = 1; i < count; i++) {
                long more = (long) costOf(i) - costOf(i - 1);
                long faster = (long) rateOf(i) - rateOf(i - 1);
                long moreBefore = (long) costOf(i - 1) - costOf(i - 2);
                long fasterBefore = (long) rateOf(i - 1) - rateOf(i - 2);
                if (more * fasterBefore < moreBefore * faster) {
                    return false;
                }
            }
            return true;
        }
    }

    /** A whole number from 0 on: digits of 31 bits, the least first, the last one in use never 0. */
    private static final class Natural {
        private final int[] digits = new int[DIGITS];
        private int size;

        boolean isZero() {
            return size == 0;
        }

        boolean isOne() {
            return size == 1 && digits[0] == 1;
        }

        boolean fitsLong() {
            return size <= 2;
        }

        long asLong() {
            long low = size > 0 ? digits[0] : 0;
            long high = size > 1 ? digits[1] : 0;
            return (high << DIGIT_BITS) | low;
        }

        void setSmall(long value) {
            size = 0;
            for (long rest = value; rest > 0 && size < DIGITS; rest >>= DIGIT_BITS) {
                digits[size] = (int) (rest & DIGIT_MASK);
                size++;
            }
        }

        void copyFrom(Natural other) {
            System.arraycopy(other.digits, 0, digits, 0, other.size);
            size = other.size;
        }

        int order(Natural other) {
            if (size != other.size) {
                return size < other.size ? -1 : 1;
            }
            for (int i = size - 1; i >= 0; i--) {
                if (digits[i] != other.digits[i]) {
                    return digits[i] < other.digits[i] ? -1 : 1;
                }
            }
            return 0;
        }

        void add(Natural other) {
            int most = Math.max(size, other.size);
            long carry = 0;
            for (int i = 0; i < most; i++) {
                long mine = i < size ? digits[i] : 0;
                long its = i < other.size ? other.digits[i] : 0;
                carry += mine + its;
                digits[i] = (int) (carry & DIGIT_MASK);
                carry >>= DIGIT_BITS;
            }
            size = most;
            push(carry);
        }

        /** Takes off a number that is not greater. */
        void takeOff(Natural other) {
            long borrow = 0;
            for (int i = 0; i < size; i++) {
                long its = i < other.size ? other.digits[i] : 0;
                long rest = digits[i] - its - borrow;
                borrow = rest < 0 ? 1 : 0;
                digits[i] = (int) (rest & DIGIT_MASK);
            }
            trim();
        }

        void times(int factor) {
            long carry = 0;
            for (int i = 0; i < size; i++) {
                carry += (long) digits[i] * factor;
                digits[i] = (int) (carry & DIGIT_MASK);
                carry >>= DIGIT_BITS;
            }
            push(carry);
            trim();
        }

        /** Becomes the product of two others, neither of which may be this one. */
        void setProduct(Natural one, Natural other) {
            int most = Math.min(one.size + other.size, DIGITS);
            Arrays.fill(digits, 0, most, 0);
            for (int i = 0; i < one.size; i++) {
                long factor = one.digits[i];
                long carry = 0;
                for (int k = 0; k < other.size && i + k < most; k++) {
                    carry += digits[i + k] + factor * other.digits[k];
                    digits[i + k] = (int) (carry & DIGIT_MASK);
                    carry >>= DIGIT_BITS;
                }
                if (i + other.size < most) {
                    digits[i + other.size] = (int) carry;
                }
            }
            size = most;
            trim();
        }

        /** Becomes how often a divisor of one digit goes into it; answers what is left over. */
        int divideSmall(int by) {
            if (by < 1) {
                return 0;
            }
            long rest = 0;
            for (int i = size - 1; i >= 0; i--) {
                rest = (rest << DIGIT_BITS) | digits[i];
                digits[i] = (int) (rest / by);
                rest %= by;
            }
            trim();
            return (int) rest;
        }

        /** Becomes what is left over; quotient how often the divisor goes into it; shifted is a spare row. */
        void divideBy(Natural by, Natural quotient, Natural shifted) {
            quotient.size = 0;
            if (by.size == 0 || order(by) < 0) {
                return;
            }
            if (by.size == 1) {
                quotient.copyFrom(this);
                setSmall(quotient.divideSmall(by.digits[0]));
                return;
            }
            int shift = by.freeBits();
            shifted.copyFrom(by);
            shifted.shiftUp(shift);
            shiftUp(shift);
            int most = size - shifted.size;
            if (most < 0 || size >= DIGITS) {
                return;
            }
            digits[size] = 0;
            for (int i = most; i >= 0; i--) {
                quotient.digits[i] = (int) takeMultiple(shifted, i);
            }
            quotient.size = most + 1;
            quotient.trim();
            size = shifted.size;
            trim();
            shiftDown(shift);
        }

        /** How often a divisor goes into this one from a digit on; that is taken off. A guess is 1 too high at most. */
        private long takeMultiple(Natural by, int from) {
            int top = from + by.size;
            if (from < 0 || by.size < 2 || top >= DIGITS || by.digits[by.size - 1] == 0) {
                return 0;
            }
            long guess = guessMultiple(by, top);
            long carry = 0;
            for (int i = 0; i < by.size; i++) {
                carry += guess * by.digits[i];
                long rest = digits[from + i] - (carry & DIGIT_MASK);
                digits[from + i] = (int) (rest & DIGIT_MASK);
                carry = (carry >> DIGIT_BITS) + (rest < 0 ? 1 : 0);
            }
            long lead = digits[top] - carry;
            if (lead < 0) {
                guess--;
                carry = 0;
                for (int i = 0; i < by.size; i++) {
                    carry += (long) digits[from + i] + by.digits[i];
                    digits[from + i] = (int) (carry & DIGIT_MASK);
                    carry >>= DIGIT_BITS;
                }
                lead += carry;
            }
            digits[top] = (int) (lead & DIGIT_MASK);
            return guess;
        }

        /** A guess from three digits against two, after Knuth (4.3.1, D3). */
        private long guessMultiple(Natural by, int top) {
            if (by.size < 2 || top < 2 || top >= DIGITS || by.digits[by.size - 1] == 0) {
                return 0;
            }
            long lead = by.digits[by.size - 1];
            long second = by.digits[by.size - 2];
            long upper = ((long) digits[top] << DIGIT_BITS) | digits[top - 1];
            long guess = upper / lead;
            long rest = upper % lead;
            for (int turn = 0; turn < 3 && rest <= DIGIT_MASK; turn++) {
                if (guess <= DIGIT_MASK && guess * second <= ((rest << DIGIT_BITS) | digits[top - 2])) {
                    break;
                }
                guess--;
                rest += lead;
            }
            return guess;
        }

        /** How far it can be shifted up without a digit more. */
        private int freeBits() {
            int bits = 0;
            if (size > 0) {
                int lead = digits[size - 1];
                while (bits < DIGIT_BITS - 1 && (lead << bits) < HALF_DIGIT) {
                    bits++;
                }
            }
            return bits;
        }

        private void shiftUp(int bits) {
            long carry = 0;
            for (int i = 0; i < size; i++) {
                carry |= (long) digits[i] << bits;
                digits[i] = (int) (carry & DIGIT_MASK);
                carry >>= DIGIT_BITS;
            }
            push(carry);
        }

        private void shiftDown(int bits) {
            long rest = 0;
            for (int i = size - 1; i >= 0; i--) {
                rest = (rest << DIGIT_BITS) | digits[i];
                digits[i] = (int) (rest >> bits);
                rest &= (1L << bits) - 1;
            }
            trim();
        }

        private void push(long digit) {
            if (digit > 0 && size < DIGITS) {
                digits[size] = (int) digit;
                size++;
            }
        }

        private void trim() {
            while (size > 0 && digits[size - 1] == 0) {
                size--;
            }
        }
    }

    /** A number above and one below, which is never 0. */
    private static final class Fraction {
        private final Natural top = new Natural();
        private final Natural below = new Natural();

        Fraction() {
            below.setSmall(1);
        }

        /** Takes a small fraction, and brings it to least terms. */
        void setSmall(long above, long under) {
            if (above < 0 || under < 1) {
                return;
            }
            long common = commonOf(above, under);
            if (common > 0) {
                top.setSmall(above / common);
                below.setSmall(under / common);
            }
        }

        void copyFrom(Fraction other) {
            top.copyFrom(other.top);
            below.copyFrom(other.below);
        }

        boolean isSame(Fraction other) {
            return top.order(other.top) == 0 && below.order(other.below) == 0;
        }

        /** As a binary number; right to the last place for numbers that are binary numbers themselves. */
        double asBinary() {
            double under = (double) below.asLong();
            return under > 0 ? (double) top.asLong() / under : 0;
        }
    }

    private static long commonOf(long one, long other) {
        long greater = one;
        long lesser = other;
        for (int turn = 0; turn < MOST_DIVISIONS && lesser != 0; turn++) {
            long rest = greater % lesser;
            greater = lesser;
            lesser = rest;
        }
        return greater;
    }

    /** A profile's steps, when each job is done by it, what it costs, who works at each whole time. */
    private static final class Profile {
        private boolean ready;
        private int steps;
        private final int[] begin = new int[MOST_STEPS];
        private final int[] end = new int[MOST_STEPS];
        private final Fraction[] rate = new Fraction[MOST_STEPS];
        private final Fraction[] done = new Fraction[MOST_JOBS];
        private final int[] worker = new int[LAST_TIME];
        private final Fraction cost = new Fraction();

        Profile() {
            for (int i = 0; i < MOST_STEPS; i++) {
                rate[i] = new Fraction();
            }
            for (int i = 0; i < MOST_JOBS; i++) {
                done[i] = new Fraction();
            }
        }

        void empty() {
            ready = false;
            steps = 0;
            Arrays.fill(worker, NONE);
        }

        boolean hasStep(int i) {
            return ready && i >= 0 && i < steps;
        }

        /** One more stretch; it lengthens the step before, if it is as fast. */
        void append(int from, int to, Fraction speed) {
            if (steps > 0 && rate[steps - 1].isSame(speed)) {
                end[steps - 1] = to;
            } else if (steps < MOST_STEPS) {
                begin[steps] = from;
                end[steps] = to;
                rate[steps].copyFrom(speed);
                steps++;
            }
        }

        int lengthWithin(int i, int from, int to) {
            if (i < 0 || i >= steps) {
                return 0;
            }
            return Math.max(0, Math.min(end[i], to) - Math.max(begin[i], from));
        }
    }

    /** Exact arithmetic, with its spare rows. */
    private static final class Reckoner {
        private final Natural first = new Natural();
        private final Natural second = new Natural();
        private final Natural quotient = new Natural();
        private final Natural shifted = new Natural();
        private final Natural product = new Natural();
        private final Natural spare = new Natural();
        private final Natural sum = new Natural();
        /** The common number below the speeds of the profile shared out latest, and those above it. */
        private final Natural common = new Natural();
        private final Natural[] shares = new Natural[MOST_STEPS];

        Reckoner() {
            for (int i = 0; i < MOST_STEPS; i++) {
                shares[i] = new Natural();
            }
        }

        int order(Fraction one, Fraction other) {
            product.setProduct(one.top, other.below);
            spare.setProduct(other.top, one.below);
            return product.order(spare);
        }

        /** Brings a fraction to least terms. */
        void lower(Fraction fraction) {
            Natural divisor = commonOf(fraction.top, fraction.below);
            if (divisor.isZero() || divisor.isOne()) {
                return;
            }
            fraction.top.divideBy(divisor, quotient, shifted);
            fraction.top.copyFrom(quotient);
            fraction.below.divideBy(divisor, quotient, shifted);
            fraction.below.copyFrom(quotient);
        }

        /** The greatest common divisor, in one of the spare rows. */
        private Natural commonOf(Natural one, Natural other) {
            Natural greater = first;
            Natural lesser = second;
            greater.copyFrom(one);
            lesser.copyFrom(other);
            for (int turn = 0; turn < MOST_DIVISIONS && !lesser.isZero(); turn++) {
                if (greater.fitsLong() && lesser.fitsLong()) {
                    greater.setSmall(SpeedKernel.commonOf(greater.asLong(), lesser.asLong()));
                    return greater;
                }
                greater.divideBy(lesser, quotient, shifted);
                Natural rest = greater;
                greater = lesser;
                lesser = rest;
            }
            return greater;
        }

        /** Adds a small fraction, and leaves it to lower() to bring the sum to least terms. */
        void add(Fraction total, long above, int under) {
            if (above < 0 || under < 1) {
                return;
            }
            spare.setSmall(above);
            product.setProduct(total.below, spare);
            total.top.times(under);
            total.top.add(product);
            total.below.times(under);
        }

        /** Brings the speeds of a profile over one number below them. */
        void shareOut(Profile profile) {
            common.setSmall(1);
            for (int i = 0; i < profile.steps; i++) {
                Natural below = profile.rate[i].below;
                Natural divisor = commonOf(common, below);
                spare.copyFrom(below);
                spare.divideBy(divisor, quotient, shifted);
                product.setProduct(common, quotient);
                common.copyFrom(product);
            }
            for (int i = 0; i < profile.steps; i++) {
                spare.copyFrom(common);
                spare.divideBy(profile.rate[i].below, quotient, shifted);
                shares[i].setProduct(profile.rate[i].top, quotient);
            }
        }

        /** What a profile costs: the cubes of its speeds, all over the cube of one number. */
        void reckonCost(Profile profile) {
            shareOut(profile);
            sum.setSmall(0);
            for (int i = 0; i < profile.steps; i++) {
                spare.setProduct(shares[i], shares[i]);
                product.setProduct(spare, shares[i]);
                product.times(profile.end[i] - profile.begin[i]);
                sum.add(product);
            }
            profile.cost.top.copyFrom(sum);
            spare.setProduct(common, common);
            profile.cost.below.setProduct(spare, common);
            lower(profile.cost);
        }

        /** Whether a profile, shared out, does less (-1), just as much (0) or more (1) than some work between two times. */
        private int orderOfWork(Profile profile, int from, int to, int work) {
            sum.setSmall(0);
            for (int i = 0; i < profile.steps; i++) {
                int length = profile.lengthWithin(i, from, to);
                if (length > 0) {
                    spare.copyFrom(shares[i]);
                    spare.times(length);
                    sum.add(spare);
                }
            }
            spare.copyFrom(common);
            spare.times(work);
            return sum.order(spare);
        }

        boolean doesEnough(Profile profile, int from, int to, int work) {
            return orderOfWork(profile, from, to, work) >= 0;
        }

        boolean doesJust(Profile profile, int work) {
            return orderOfWork(profile, 0, LAST_TIME, work) == 0;
        }
    }

    /**
     * THE PLAN: of all stretches between a release and a deadline, the one with most work for its free
     * time is taken, its jobs fill its free time at one speed, and so on with the jobs and times that
     * are left. Jobs taken together are a group, which has the times taken with it for itself alone.
     */
    private static final class Planner {
        private int groups;
        private final int[] groupWork = new int[MOST_JOBS];
        private final int[] groupTime = new int[MOST_JOBS];
        private final Fraction[] groupRate = new Fraction[MOST_JOBS];
        private final int[] groupOfJob = new int[MOST_JOBS];
        private final int[] groupAt = new int[LAST_TIME];
        private final int[] freeBefore = new int[LAST_TIME + 1];
        /** What is left of each job, in parts of its group's time: so a group does groupWork in a time of 1. */
        private final int[] left = new int[MOST_JOBS];
        private final Fraction idle = new Fraction();
        private int bestFrom;
        private int bestTo;
        private int bestWork;
        private int bestTime;

        Planner() {
            for (int i = 0; i < MOST_JOBS; i++) {
                groupRate[i] = new Fraction();
            }
        }

        void workOut(Jobs jobs, Profile profile) {
            profile.empty();
            findGroups(jobs);
            layOutSteps(jobs, profile);
            workOff(jobs, profile);
        }

        boolean hasGroup(int group) {
            return group >= 0 && group < groups;
        }

        /** A job's group, or NONE. */
        int groupOf(int i) {
            return i >= 0 && i < MOST_JOBS ? groupOfJob[i] : NONE;
        }

        /** A job's speed, or null. */
        Fraction rateOf(int i) {
            int group = groupOf(i);
            return hasGroup(group) ? groupRate[group] : null;
        }

        private void findGroups(Jobs jobs) {
            groups = 0;
            Arrays.fill(groupOfJob, NONE);
            Arrays.fill(groupAt, NONE);
            for (int round = 0; round < MOST_JOBS; round++) {
                findDensest(jobs);
                if (bestTime < 1) {
                    return;
                }
                takeDensest(jobs);
            }
        }

        private void findDensest(Jobs jobs) {
            bestWork = 0;
            bestTime = 0;
            for (int t = 0; t < LAST_TIME; t++) {
                freeBefore[t + 1] = freeBefore[t] + (groupAt[t] == NONE ? 1 : 0);
            }
            for (int i = 0; i < jobs.count; i++) {
                for (int k = 0; k < jobs.count; k++) {
                    if (groupOfJob[i] == NONE && groupOfJob[k] == NONE) {
                        tryBetween(jobs, jobs.release[i], jobs.deadline[k]);
                    }
                }
            }
        }

        private void tryBetween(Jobs jobs, int from, int to) {
            if (from < 0 || to > LAST_TIME || from >= to) {
                return;
            }
            int time = freeBefore[to] - freeBefore[from];
            if (time < 1) {
                return;
            }
            int work = 0;
            for (int i = 0; i < jobs.count; i++) {
                if (groupOfJob[i] == NONE && jobs.isWithin(i, from, to)) {
                    work += jobs.work[i];
                }
            }
            if (work > 0 && (bestTime == 0 || work * bestTime > bestWork * time)) {
                bestFrom = from;
                bestTo = to;
                bestWork = work;
                bestTime = time;
            }
        }

        private void takeDensest(Jobs jobs) {
            if (groups >= MOST_JOBS || bestFrom < 0 || bestTo > LAST_TIME) {
                return;
            }
            groupWork[groups] = bestWork;
            groupTime[groups] = bestTime;
            groupRate[groups].setSmall(bestWork, bestTime);
            for (int i = 0; i < jobs.count; i++) {
                if (groupOfJob[i] == NONE && jobs.isWithin(i, bestFrom, bestTo)) {
                    groupOfJob[i] = groups;
                    left[i] = jobs.work[i] * bestTime;
                }
            }
            for (int t = bestFrom; t < bestTo; t++) {
                if (groupAt[t] == NONE) {
                    groupAt[t] = groups;
                }
            }
            groups++;
        }

        private void layOutSteps(Jobs jobs, Profile profile) {
            int last = Math.min(jobs.lastDeadline(), LAST_TIME);
            int from = Math.max(jobs.firstRelease(), 0);
            for (int t = from; t < last; t++) {
                if (t + 1 == last || groupAt[t + 1] != groupAt[t]) {
                    int group = groupAt[t];
                    profile.append(from, t + 1, hasGroup(group) ? groupRate[group] : idle);
                    from = t + 1;
                }
            }
        }

        private void workOff(Jobs jobs, Profile profile) {
            for (int t = 0; t < LAST_TIME; t++) {
                if (hasGroup(groupAt[t])) {
                    workOffAt(jobs, profile, t, groupAt[t]);
                }
            }
        }

        /** A time of 1 that a group has: it is just long enough for the group, so no other job has a part in it. */
        private void workOffAt(Jobs jobs, Profile profile, int t, int group) {
            if (t < 0 || t >= LAST_TIME || !hasGroup(group)) {
                return;
            }
            int room = groupWork[group];
            int used = 0;
            for (int place = 0; place < jobs.count && used < room; place++) {
                int i = jobs.byDeadline[place];
                if (groupOf(i) != group || jobs.release[i] > t || left[i] < 1) {
                    continue;
                }
                if (used == 0) {
                    profile.worker[t] = i;
                }
                int part = Math.min(left[i], room - used);
                used += part;
                left[i] -= part;
                if (left[i] == 0) {
                    profile.done[i].setSmall((long) t * room + used, room);
                }
            }
        }
    }

    /**
     * AHEAD: at each release, and where work aimed at a deadline is done, the known jobs are sought that
     * are densest from then on; theirs is the speed up to their last deadline or the next release.
     */
    private static final class Foresight {
        /** What is left of each job, over one number for all of them: scale. */
        private final Natural[] left = new Natural[MOST_JOBS];
        private final Natural scale = new Natural();
        /** What is left of the densest known jobs, over scale, and their last deadline. */
        private final Natural dense = new Natural();
        private int denseDeadline;
        private final Natural sum = new Natural();
        private final Natural mark = new Natural();
        private final Natural room = new Natural();
        private final Natural spare = new Natural();
        private final Fraction rate = new Fraction();

        Foresight() {
            for (int i = 0; i < MOST_JOBS; i++) {
                left[i] = new Natural();
            }
        }

        void workOut(Jobs jobs, Profile profile, Reckoner reckoner) {
            profile.empty();
            scale.setSmall(1);
            for (int i = 0; i < jobs.count; i++) {
                left[i].setSmall(jobs.work[i]);
            }
            int last = Math.min(jobs.lastDeadline(), LAST_TIME);
            int now = Math.max(jobs.firstRelease(), 0);
            for (int stretch = 0; stretch < MOST_STEPS && now < last; stretch++) {
                findDensest(jobs, now);
                int until = jobs.nextRelease(now, last);
                if (!dense.isZero()) {
                    until = Math.min(until, denseDeadline);
                }
                setRate(denseDeadline - now);
                reckoner.lower(rate);
                profile.append(now, until, rate);
                workOff(jobs, profile, now, until);
                now = until;
            }
            for (int i = 0; i < jobs.count; i++) {
                reckoner.lower(profile.done[i]);
            }
        }

        private boolean isOpen(Jobs jobs, int i, int now) {
            return jobs.has(i) && jobs.release[i] <= now && jobs.deadline[i] > now && !left[i].isZero();
        }

        private void findDensest(Jobs jobs, int now) {
            dense.setSmall(0);
            denseDeadline = now;
            sum.setSmall(0);
            for (int place = 0; place < jobs.count; place++) {
                int i = jobs.byDeadline[place];
                if (!isOpen(jobs, i, now)) {
                    continue;
                }
                sum.add(left[i]);
                mark.copyFrom(sum);
                mark.times(denseDeadline - now);
                spare.copyFrom(dense);
                spare.times(jobs.deadline[i] - now);
                if (mark.order(spare) >= 0) {
                    dense.copyFrom(sum);
                    denseDeadline = jobs.deadline[i];
                }
            }
        }

        /** The speed at which the densest jobs are done in a time; 0, if there are none. */
        private void setRate(int time) {
            rate.top.copyFrom(dense);
            rate.below.setSmall(1);
            if (time > 0) {
                rate.below.copyFrom(scale);
                rate.below.times(time);
            }
        }

        /**
         * Works from now until a time. All amounts are taken times the time from now to denseDeadline:
         * so dense is what is done in a time of 1, and nothing needs to be divided.
         */
        private void workOff(Jobs jobs, Profile profile, int now, int until) {
            int aim = denseDeadline - now;
            int broken = NONE;
            int t = now;
            room.copyFrom(dense);
            room.times(until - now);
            sum.setSmall(0);
            mark.setSmall(0);
            for (int place = 0; place < jobs.count && sum.order(room) < 0; place++) {
                int i = jobs.byDeadline[place];
                if (!isOpen(jobs, i, now)) {
                    continue;
                }
                left[i].times(aim);
                sum.add(left[i]);
                while (t >= 0 && t < until && t < LAST_TIME && mark.order(sum) < 0) {
                    profile.worker[t] = i;
                    mark.add(dense);
                    t++;
                }
                if (sum.order(room) > 0) {
                    left[i].copyFrom(sum);
                    left[i].takeOff(room);
                    broken = i;
                } else {
                    left[i].setSmall(0);
                    setEnd(profile, i, now);
                }
            }
            if (broken != NONE) {
                rescale(jobs, broken, aim);
            }
        }

        /** A job ends when the sum has been done from now on. */
        private void setEnd(Profile profile, int i, int now) {
            if (i < 0 || i >= MOST_JOBS || dense.isZero()) {
                return;
            }
            Fraction end = profile.done[i];
            end.below.copyFrom(dense);
            end.top.copyFrom(dense);
            end.top.times(now);
            end.top.add(sum);
        }

        /** Brings scale and what is left of all other jobs to the scale of the broken one. */
        private void rescale(Jobs jobs, int broken, int factor) {
            scale.times(factor);
            for (int i = 0; i < jobs.count; i++) {
                if (i != broken) {
                    left[i].times(factor);
                }
            }
        }
    }

    /** The plan's speeds split between neighbouring levels. */
    private static final class Splitter {
        private boolean ready;
        private final int[] lesser = new int[MOST_JOBS];
        private final int[] greater = new int[MOST_JOBS];
        private final Fraction[] slowly = new Fraction[MOST_JOBS];
        private final Fraction[] fast = new Fraction[MOST_JOBS];
        private final Fraction cost = new Fraction();

        Splitter() {
            for (int i = 0; i < MOST_JOBS; i++) {
                slowly[i] = new Fraction();
                fast[i] = new Fraction();
            }
        }

        /** Answers whether there is a level for each speed. */
        boolean workOut(Jobs jobs, Levels levels, Planner planner, Reckoner reckoner) {
            ready = false;
            cost.setSmall(0, 1);
            for (int group = 0; group < MOST_JOBS && planner.hasGroup(group); group++) {
                int upper = levels.leastFor(planner.groupWork[group], planner.groupTime[group]);
                if (upper == NONE) {
                    return false;
                }
                splitGroup(planner, group, jobs, levels, upper, reckoner);
            }
            reckoner.lower(cost);
            ready = true;
            return true;
        }

        /** A group's jobs have one speed, and the group's time together: what is split is that time. */
        private void splitGroup(Planner planner, int group, Jobs jobs, Levels levels, int upper, Reckoner reckoner) {
            if (!planner.hasGroup(group)) {
                return;
            }
            long work = planner.groupWork[group];
            long time = planner.groupTime[group];
            long under = levels.rateOf(upper) * time - work;
            int lower = under == 0 ? upper : upper - 1;
            int apart = levels.rateOf(upper) - levels.rateOf(lower);
            long over = work - levels.rateOf(lower) * time;
            if (apart == 0) {
                reckoner.add(cost, levels.costOf(upper) * time, 1);
            } else {
                reckoner.add(cost, levels.costOf(lower) * under + levels.costOf(upper) * over, apart);
            }
            for (int i = 0; i < jobs.count; i++) {
                if (planner.groupOf(i) != group) {
                    continue;
                }
                lesser[i] = lower;
                greater[i] = upper;
                if (apart == 0) {
                    slowly[i].setSmall(jobs.work[i] * time, work);
                    fast[i].setSmall(0, 1);
                } else {
                    slowly[i].setSmall(jobs.work[i] * under, work * apart);
                    fast[i].setSmall(jobs.work[i] * over, work * apart);
                }
            }
        }
    }

    /** What was printed latest. */
    private static final class Text {
        private final char[] characters = new char[MOST_CHARACTERS];
        private int length;
        private final int[] chunks = new int[MOST_CHUNKS];
        private final Natural rest = new Natural();

        int at(int i) {
            return i >= 0 && i < length ? characters[i] : NONE;
        }

        int write(Fraction fraction) {
            length = 0;
            writeNumber(fraction.top);
            if (!fraction.below.isOne()) {
                push('/');
                writeNumber(fraction.below);
            }
            return length;
        }

        private void writeNumber(Natural number) {
            int count = 0;
            rest.copyFrom(number);
            while (count < MOST_CHUNKS && (count == 0 || !rest.isZero())) {
                chunks[count] = rest.divideSmall(CHUNK);
                count++;
            }
            for (int i = count - 1; i >= 0; i--) {
                writeChunk(chunks[i], i < count - 1);
            }
        }

        /** Nine places of a number; the zeros in front only when others stand before them. */
        private void writeChunk(int chunk, boolean whole) {
            boolean begun = whole;
            int place = CHUNK / 10;
            for (int i = 0; i < CHUNK_PLACES && place > 0; i++) {
                int digit = chunk / place % 10;
                begun = begun || digit != 0 || place == 1;
                if (begun) {
                    push((char) ('0' + digit));
                }
                place /= 10;
            }
        }

        private void push(char character) {
            if (length < MOST_CHARACTERS) {
                characters[length] = character;
                length++;
            }
        }
    }
}
