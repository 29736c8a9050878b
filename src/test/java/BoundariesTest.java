import java.util.ArrayList;
import java.util.List;

/**
 * Each sentence of the document that names a boundary, with a test of its own: the last input that is
 * taken, the first that is refused, and what stays as it was.
 *
 * A test is the promise, the sentence, and runs of calls, each run on a new object. A row of a run is
 * "call -> answer"; "n times call -> answer"; or "call -> answer, all stays": then everything that the
 * object tells must be as it would be without that call. LEAST and MOST are the ends of int.
 */
public final class BoundariesTest {
    private static int wrong = 0;
    private static int sentences = 0;

    /** Two steps of another speed round a fast one, a gap, a third job: all worked out. */
    private static final String JOBS = """
        job(0, 6, 6) -> 0
        job(2, 4, 8) -> 1
        job(7, 9, 3) -> 2
        """;
    private static final String LEVELS = """
        level(1, 2) -> 1
        level(3, 9) -> 2
        level(4, 20) -> 3
        """;
    private static final String WORKED_OUT = JOBS + LEVELS + """
        plan() -> 5
        ahead() -> 5
        split() -> 1
        text(7, 0) -> 593/4
        """;
    private static final String PLAN_STANDS = """
        check() -> 1
        near() -> 148.25
        text(0, 4) -> 3/2
        step(0, 4, 1) -> 9
        text(2, 2) -> 9
        text(4, 1) -> 4
        text(7, 0) -> 593/4
        speed(2.0) -> 4.0
        working(0, 2) -> 1
        """;
    private static final String AHEAD_STANDS = """
        text(1, 2) -> 2
        step(1, 2, 0) -> 4
        text(3, 0) -> 6
        text(8, 0) -> 611/4
        working(1, 8) -> 2
        """;
    private static final String SPLIT_STANDS = """
        text(5, 0) -> 3
        text(6, 2) -> 1/2
        text(9, 0) -> 125/2
        levelOf(0, 0) -> 0
        levelOf(1, 1) -> 2
        """;
    private static final String PLAN_IS_GONE = """
        check() -> -1
        near() -> 0.0
        print(0, 0) -> -1
        print(2, 0) -> -1
        print(4, 0) -> -1
        print(7, 0) -> -1
        compare(0, 0, 0, 0) -> -2
        compare(2, 0, 2, 0) -> -2
        compare(4, 0, 4, 0) -> -2
        compare(7, 0, 7, 0) -> -2
        step(0, 0, 0) -> throws.IndexOutOfBoundsException
        step(0, 0, 1) -> throws.IndexOutOfBoundsException
        speed(0.0) -> 0.0
        speed(3.0) -> 0.0
        working(0, 0) -> -1
        working(0, 3) -> -1
        split() -> throws.IllegalStateException
        """;
    private static final String AHEAD_IS_GONE = """
        print(1, 0) -> -1
        print(3, 0) -> -1
        print(8, 0) -> -1
        compare(1, 0, 1, 0) -> -2
        compare(3, 0, 3, 0) -> -2
        compare(8, 0, 8, 0) -> -2
        step(1, 0, 0) -> throws.IndexOutOfBoundsException
        step(1, 0, 1) -> throws.IndexOutOfBoundsException
        working(1, 0) -> -1
        working(1, 3) -> -1
        """;
    private static final String SPLIT_IS_GONE = """
        print(5, 0) -> -1
        print(6, 0) -> -1
        print(9, 0) -> -1
        compare(5, 0, 5, 0) -> -2
        compare(6, 0, 6, 0) -> -2
        compare(9, 0, 9, 0) -> -2
        levelOf(0, 0) -> -2
        levelOf(0, 1) -> -2
        """;
    private static final String TWELVE_JOBS = """
        job(0, 12, 1) -> 0
        job(0, 12, 1) -> 1
        job(0, 12, 1) -> 2
        job(0, 12, 1) -> 3
        job(0, 12, 1) -> 4
        job(0, 12, 1) -> 5
        job(0, 12, 1) -> 6
        job(0, 12, 1) -> 7
        job(0, 12, 1) -> 8
        job(0, 12, 1) -> 9
        job(0, 12, 1) -> 10
        job(0, 12, 1) -> 11
        """;
    private static final String EIGHT_LEVELS = """
        level(1, 1) -> 1
        level(2, 4) -> 2
        level(3, 9) -> 3
        level(4, 16) -> 4
        level(5, 25) -> 5
        level(6, 36) -> 6
        level(7, 49) -> 7
        level(10000, 1000000) -> 8
        """;
    /** As many steps as there can be: 12 jobs and the 11 gaps between them. */
    private static final String MOST_STEPS = """
        job(0, 2, 1) -> 0
        job(18, 20, 2) -> 1
        job(36, 38, 3) -> 2
        job(54, 56, 4) -> 3
        job(72, 74, 5) -> 4
        job(90, 92, 6) -> 5
        job(108, 110, 7) -> 6
        job(126, 128, 8) -> 7
        job(144, 146, 9) -> 8
        job(162, 164, 10) -> 9
        job(180, 182, 11) -> 10
        job(198, 200, 12) -> 11
        """;

    public static void main(String[] args) {
        constants();
        calls();
        newObject();
        jobTimes();
        jobOrder();
        jobWork();
        jobCount();
        jobForgets();
        levelRates();
        levelCosts();
        levelOrder();
        levelCount();
        levelForgets();
        convexFew();
        convexEdges();
        convexFar();
        clear();
        about();
        planWithoutJobs();
        planForgetsSplit();
        planSteps();
        planStepCount();
        planIsCheapest();
        byDeadlines();
        aheadWithoutJobs();
        aheadKeeps();
        aheadKnows();
        aheadDeadlines();
        splitWithoutPlan();
        splitAboveAllRates();
        splitWithoutJobs();
        splitNeighbours();
        stepRange();
        stepLooksFirst();
        printRange();
        printKeeps();
        printWritesFractions();
        printSplitTimes();
        character();
        compareRange();
        compareExactly();
        levelOfRange();
        levelOfPairs();
        nearWithoutPlan();
        nearRounds();
        speedRange();
        workingRange();
        workingTurns();
        check();
        throwsChangeNothing();
        System.out.println(wrong == 0 ? sentences + " sentences hold" : wrong + " rows of the runs are not as due");
        if (wrong != 0) {
            System.exit(1);
        }
    }

    private static void sentence(String promise, String words, String... runs) {
        sentences++;
        for (String rows : runs) {
            String fault = fault(rows.strip().split("\n"));
            if (fault != null) {
                wrong++;
                System.out.println(promise + ": '" + words + "': " + fault);
            }
        }
    }

    /** The first wrong row of a run, told; null, if there is none. */
    private static String fault(String[] rows) {
        Subject subject = new Subject();
        List<String> before = new ArrayList<>();
        for (String row : rows) {
            boolean stays = row.endsWith(", all stays");
            String[] sides = row.replace(", all stays", "").split(" -> ");
            String[] words = sides[0].split(" times ");
            String call = words[words.length - 1].strip();
            int times = words.length > 1 ? Integer.parseInt(words[0].strip()) : 1;
            for (int turn = 0; turn < times; turn++) {
                String answer = subject.ask(call);
                if (!answer.equals(sides[1].strip())) {
                    return "after " + before + " " + call + " answered " + answer + ", due is " + sides[1].strip();
                }
                String change = stays ? change(before, call) : null;
                if (change != null) {
                    return "after " + before + " " + call + " changed " + change;
                }
                before.add(call);
            }
        }
        return null;
    }

    /** What an object tells with and without a last call, where that differs; else null. */
    private static String change(List<String> before, String call) {
        Subject with = new Subject();
        Subject without = new Subject();
        for (String earlier : before) {
            with.ask(earlier);
            without.ask(earlier);
        }
        with.ask(call);
        String now = with.everything();
        String then = without.everything();
        return now.equals(then) ? null : then + " to " + now;
    }

    private static void constants() {
        sentence("The constants", "NONE = -1: There is none.", "about(2, 0) -> " + SpeedKernel.NONE + "\nabout(2, 0) -> -1");
    }

    private static void calls() {
        sentence("What it is", "An object is used for at most 512 calls after it has been made",
            """
            job(0, 6, 6) -> 0
            505 times about(0, 0) -> 1
            plan() -> 1
            ahead() -> 1
            level(1, 1) -> 1
            split() -> 1
            print(7, 0) -> 1
            character(0) -> 54
            """, JOBS + LEVELS + """
            168 times plan() -> 5
            168 times ahead() -> 5
            168 times split() -> 1
            print(9, 0) -> 5
            check() -> 1
            """, """
            256 times job(0, 0, 1) -> -1
            255 times split() -> throws.IllegalStateException
            job(0, 200, 1) -> 0
            """, "job(0, 1, 1) -> 0\nclear() -> 1\n".repeat(256));
    }

    private static void newObject() {
        sentence("1 A new object", "No jobs, no levels; nothing is planned, nothing printed.", """
            character(0) -> -1
            about(0, 0) -> 0
            about(1, 0) -> 0
            about(2, 0) -> -1
            about(3, 0) -> -1
            about(4, 0) -> -1
            about(5, 0) -> -1
            about(6, 0) -> -1
            """ + PLAN_IS_GONE + AHEAD_IS_GONE + SPLIT_IS_GONE + """
            character(0) -> -1
            clear() -> 0
            """, """
            level(1, 1) -> 1
            job(0, 1, 1) -> 0
            character(0) -> -1
            """ + PLAN_IS_GONE + AHEAD_IS_GONE + SPLIT_IS_GONE);
    }

    private static void jobTimes() {
        sentence("2 job", "NONE, and nothing is done, when a time is not as told (from 0 to 200)", """
            job(0, 1, 1) -> 0
            job(199, 200, 1) -> 1
            job(0, 200, 1) -> 2
            about(2, 0) -> 0
            about(3, 1) -> 200
            plan() -> 3
            """, WORKED_OUT + """
            job(-1, 1, 1) -> -1, all stays
            job(199, 201, 1) -> -1, all stays
            job(-1, 201, 1) -> -1, all stays
            job(-1, 0, 1) -> -1, all stays
            job(-2, -1, 1) -> -1, all stays
            job(200, 201, 1) -> -1, all stays
            job(201, 202, 1) -> -1, all stays
            job(LEAST, 5, 1) -> -1, all stays
            job(5, MOST, 1) -> -1, all stays
            job(LEAST, MOST, 1) -> -1, all stays
            """);
    }

    private static void jobOrder() {
        sentence("2 job", "NONE, and nothing is done, when their order is not as told (a DEADLINE above it)", """
            job(5, 6, 1) -> 0
            job(0, 1, 1) -> 1
            job(199, 200, 1) -> 2
            """, WORKED_OUT + """
            job(5, 5, 1) -> -1, all stays
            job(5, 4, 1) -> -1, all stays
            job(0, 0, 1) -> -1, all stays
            job(200, 200, 1) -> -1, all stays
            job(200, 0, 1) -> -1, all stays
            job(MOST, LEAST, 1) -> -1, all stays
            """);
    }

    private static void jobWork() {
        sentence("2 job", "NONE, and nothing is done, when the work is not as told (from 1 to 1000)", """
            job(0, 1, 1) -> 0
            job(0, 1, 1000) -> 1
            about(4, 0) -> 1
            about(4, 1) -> 1000
            """, WORKED_OUT + """
            job(0, 1, 0) -> -1, all stays
            job(0, 1, 1001) -> -1, all stays
            job(0, 1, -1) -> -1, all stays
            job(0, 1, LEAST) -> -1, all stays
            job(0, 1, MOST) -> -1, all stays
            """);
    }

    private static void jobCount() {
        sentence("2 job", "NONE, and nothing is done, when there are 12; numbered from 0", TWELVE_JOBS + """
            about(0, 0) -> 12
            plan() -> 1
            ahead() -> 1
            print(0, 0) -> 1
            job(0, 12, 1) -> -1, all stays
            job(13, 14, 5) -> -1, all stays
            about(0, 0) -> 12
            text(7, 0) -> 12
            clear() -> 12
            """ + TWELVE_JOBS + """
            job(0, 12, 1) -> -1
            """, """
            job(0, 0, 1) -> -1
            job(1, 2, 1) -> 0
            job(0, 1, 0) -> -1
            job(2, 3, 1) -> 1
            about(0, 0) -> 2
            about(2, 1) -> 2
            """, TWELVE_JOBS.replace("job(0, 12, 1) -> 11", "job(0, 12, 0) -> -1\njob(0, 12, 1) -> 11"));
    }

    private static void jobForgets() {
        sentence("2 job", "One more job: its number. What was planned is gone.", WORKED_OUT + """
            job(0, 1, 1) -> 3
            character(0) -> 53
            """ + PLAN_IS_GONE + AHEAD_IS_GONE + SPLIT_IS_GONE + """
            character(4) -> 52
            about(1, 0) -> 3
            about(2, 2) -> 7
            ahead() -> 5
            """ + PLAN_IS_GONE + SPLIT_IS_GONE, """
            plan() -> 0
            ahead() -> 0
            split() -> 1
            job(0, 1, 1) -> 0
            """ + PLAN_IS_GONE + AHEAD_IS_GONE + SPLIT_IS_GONE);
    }

    private static void levelRates() {
        sentence("3 level", "NONE, and nothing is done, when the rate is not as told (from 1 to 10000)", """
            level(0, 5) -> -1
            level(10001, 5) -> -1
            about(1, 0) -> 0
            level(1, 5) -> 1
            level(10000, 5) -> 2
            level(10001, 5) -> -1
            about(5, 0) -> 1
            about(5, 1) -> 10000
            """, WORKED_OUT + """
            level(10001, 5) -> -1, all stays
            level(0, 5) -> -1, all stays
            level(-1, 5) -> -1, all stays
            level(LEAST, 5) -> -1, all stays
            level(MOST, 5) -> -1, all stays
            """);
    }

    private static void levelCosts() {
        sentence("3 level", "NONE, and nothing is done, when the cost is not as told (0 to 1000000)", """
            level(1, 0) -> 1
            level(2, 1000000) -> 2
            about(6, 0) -> 0
            about(6, 1) -> 1000000
            """, WORKED_OUT + """
            level(5, -1) -> -1, all stays
            level(5, 1000001) -> -1, all stays
            level(5, LEAST) -> -1, all stays
            level(5, MOST) -> -1, all stays
            """);
    }

    private static void levelOrder() {
        sentence("3 level", "NONE, and nothing is done, when the rate is not greater than the one before", """
            level(5, 7) -> 1
            level(5, 7) -> -1
            level(5, 8) -> -1
            level(4, 9) -> -1
            level(6, 0) -> 2
            level(9999, 0) -> 3
            level(10000, 0) -> 4
            about(1, 0) -> 4
            about(5, 1) -> 6
            clear() -> 0
            level(1, 1) -> 1
            """, WORKED_OUT + """
            level(4, 21) -> -1, all stays
            level(3, 21) -> -1, all stays
            level(2, 5) -> -1, all stays
            level(5, 0) -> 4
            """);
    }

    private static void levelCount() {
        sentence("3 level", "NONE, and nothing is done, when there are 8", EIGHT_LEVELS.replace("10000, 1000000", "8, 64") + """
            job(0, 2, 16) -> 0
            plan() -> 1
            ahead() -> 1
            split() -> 1
            print(9, 0) -> 3
            level(9, 81) -> -1, all stays
            level(10000, 0) -> -1, all stays
            about(1, 0) -> 8
            about(5, 8) -> -1
            levelOf(0, 0) -> 7
            clear() -> 1
            """ + EIGHT_LEVELS, EIGHT_LEVELS.replace("level(10000", "level(7, 50) -> -1\nlevel(10000"));
    }

    private static void levelForgets() {
        sentence("3 level", "One more level: how many there are; what was split is gone.", WORKED_OUT + """
            level(10000, 0) -> 4
            character(0) -> 53
            character(5) -> -1
            """ + SPLIT_IS_GONE + """
            character(0) -> 53
            """ + PLAN_STANDS + AHEAD_STANDS + """
            split() -> 1
            """ + SPLIT_STANDS, """
            plan() -> 0
            split() -> 1
            text(9, 0) -> 0
            level(1, 1) -> 1
            print(9, 0) -> -1
            check() -> 1
            """);
    }

    private static void convexFew() {
        sentence("4 convex", "1 when the levels are CONVEX: with none or one there is none that could be less", """
            convex() -> 1
            level(10000, 0) -> 1
            convex() -> 1
            """, """
            level(1, 500000) -> 1
            convex() -> 1
            level(2, 999999) -> 2
            convex() -> 0
            clear() -> 0
            convex() -> 1
            """);
    }

    private static void convexEdges() {
        sentence("4 convex", "never is less than for the level (or rate 0) before", """
            level(2, 3) -> 1
            level(4, 6) -> 2
            convex() -> 1
            level(5, 7) -> 3
            convex() -> 0
            """, """
            level(2, 3) -> 1
            level(4, 5) -> 2
            convex() -> 0
            level(5, 100) -> 3
            convex() -> 0
            """, """
            level(2, 3) -> 1
            level(4, 7) -> 2
            convex() -> 1
            level(6, 11) -> 3
            convex() -> 1
            level(8, 14) -> 4
            convex() -> 0
            """, """
            level(1, 0) -> 1
            level(2, 0) -> 2
            convex() -> 1
            level(3, 1) -> 3
            convex() -> 1
            level(4, 0) -> 4
            convex() -> 0
            """, """
            level(2, 4) -> 1
            level(4, 3) -> 2
            convex() -> 0
            """, EIGHT_LEVELS + """
            convex() -> 1
            """, EIGHT_LEVELS.replace("1000000", "38912") + """
            convex() -> 0
            """, EIGHT_LEVELS.replace("(7, 49)", "(7, 46)") + """
            convex() -> 0
            """);
    }

    private static void convexFar() {
        sentence("4 convex", "what one level costs more than the one before it, divided by how much faster it is: at the limits", """
            level(3000, 0) -> 1
            level(3001, 1000000) -> 2
            convex() -> 1
            """, """
            level(1, 1000000) -> 1
            level(3001, 1000000) -> 2
            convex() -> 0
            """, """
            level(5000, 500000) -> 1
            level(10000, 1000000) -> 2
            convex() -> 1
            """, """
            level(5000, 500000) -> 1
            level(10000, 999999) -> 2
            convex() -> 0
            """, """
            level(5000, 333333) -> 1
            level(10000, 666666) -> 2
            convex() -> 1
            """, """
            level(5000, 333334) -> 1
            level(10000, 666667) -> 2
            convex() -> 0
            """, """
            level(9999, 1000000) -> 1
            level(10000, 0) -> 2
            convex() -> 0
            """);
    }

    private static void clear() {
        sentence("5 clear", "No jobs, no levels; nothing is planned. How many jobs there were.", WORKED_OUT + """
            clear() -> 3
            character(0) -> 53
            about(0, 0) -> 0
            about(1, 0) -> 0
            about(2, 0) -> -1
            about(5, 0) -> -1
            convex() -> 1
            """ + PLAN_IS_GONE + AHEAD_IS_GONE + SPLIT_IS_GONE + """
            character(4) -> 52
            clear() -> 0, all stays
            level(1, 2) -> 1
            job(7, 8, 9) -> 0
            plan() -> 1
            step(0, 0, 0) -> 7
            """, EIGHT_LEVELS + """
            clear() -> 0
            about(1, 0) -> 0
            """, TWELVE_JOBS + """
            clear() -> 12
            about(0, 0) -> 0
            """, """
            plan() -> 0
            ahead() -> 0
            split() -> 1
            clear() -> 0
            """ + PLAN_IS_GONE + AHEAD_IS_GONE + SPLIT_IS_GONE);
    }

    private static void about() {
        String few = """
            job(3, 9, 70) -> 0
            job(0, 200, 1000) -> 1
            level(5, 6) -> 1
            level(7, 0) -> 2
            """;
        sentence("6 about", "NONE when there is none such", few + """
            about(2, 0) -> 3
            about(3, 0) -> 9
            about(4, 0) -> 70
            about(2, 1) -> 0
            about(3, 1) -> 200
            about(4, 1) -> 1000
            about(5, 0) -> 5
            about(6, 0) -> 6
            about(5, 1) -> 7
            about(6, 1) -> 0
            """, few + """
            about(2, 2) -> -1
            about(3, 2) -> -1
            about(4, 2) -> -1
            about(5, 2) -> -1
            about(6, 2) -> -1
            about(2, -1) -> -1
            about(3, -1) -> -1
            about(4, -1) -> -1
            about(5, -1) -> -1
            about(6, -1) -> -1
            about(2, LEAST) -> -1
            about(4, MOST) -> -1
            about(5, LEAST) -> -1
            about(6, MOST) -> -1
            """, TWELVE_JOBS + EIGHT_LEVELS + """
            about(3, 11) -> 12
            about(3, 12) -> -1
            about(5, 7) -> 10000
            about(5, 8) -> -1
            clear() -> 12
            about(3, 11) -> -1
            about(5, 7) -> -1
            """);
        sentence("6 about", "How many jobs (what 0) ... a level's rate (5), cost (6): no other what", few + """
            about(-1, 0) -> -1, all stays
            about(7, 0) -> -1, all stays
            about(LEAST, 0) -> -1, all stays
            about(MOST, 0) -> -1, all stays
            """);
        sentence("6 about", "(i is not looked at for 0 and 1)", few + """
            about(0, -1) -> 2
            about(0, 2) -> 2
            about(0, LEAST) -> 2
            about(0, MOST) -> 2
            about(1, -1) -> 2
            about(1, 2) -> 2
            about(1, LEAST) -> 2
            about(1, MOST) -> 2
            """);
    }

    private static void planWithoutJobs() {
        sentence("7 plan", "0 without jobs: that is a plan, too, which costs 0", """
            plan() -> 0
            check() -> 1
            text(7, 0) -> 0
            near() -> 0.0
            speed(0.0) -> 0.0
            working(0, 0) -> -1
            step(0, 0, 0) -> throws.IndexOutOfBoundsException
            print(0, 0) -> -1
            print(2, 0) -> -1
            print(4, 0) -> -1
            compare(7, 0, 7, 0) -> 0
            split() -> 1
            """, WORKED_OUT + """
            clear() -> 3
            plan() -> 0
            text(7, 0) -> 0
            step(0, 0, 0) -> throws.IndexOutOfBoundsException
            print(0, 0) -> -1
            speed(3.0) -> 0.0
            working(0, 3) -> -1
            near() -> 0.0
            """ + AHEAD_IS_GONE, """
            job(0, 1, 1) -> 0
            plan() -> 1
            text(7, 0) -> 1
            """);
    }

    private static void planForgetsSplit() {
        sentence("7 plan", "What was split is gone.", WORKED_OUT + """
            plan() -> 5
            character(0) -> 53
            """ + SPLIT_IS_GONE + PLAN_STANDS + AHEAD_STANDS + """
            split() -> 1
            """ + SPLIT_STANDS, JOBS + """
            plan() -> 5
            ahead() -> 5
            text(8, 0) -> 611/4
            plan() -> 5, all stays
            """);
    }

    private static void planSteps() {
        sentence("Terms, STEPS", "as long as the speed is one ... each begins where the one before ends, at another speed", """
            job(0, 2, 3) -> 0
            job(2, 6, 6) -> 1
            plan() -> 1
            step(0, 0, 0) -> 0
            step(0, 0, 1) -> 6
            text(0, 0) -> 3/2
            ahead() -> 1
            step(1, 0, 1) -> 6
            """, """
            job(0, 2, 3) -> 0
            job(2, 6, 7) -> 1
            plan() -> 2
            step(0, 0, 1) -> 2
            step(0, 1, 0) -> 2
            step(0, 1, 1) -> 6
            ahead() -> 2
            step(1, 0, 1) -> 2
            step(1, 1, 0) -> 2
            """);
        sentence("Terms, STEPS", "from the first release to the last deadline (and 0 where nothing is done)", """
            job(3, 5, 2) -> 0
            job(6, 8, 2) -> 1
            plan() -> 3
            step(0, 0, 0) -> 3
            step(0, 1, 0) -> 5
            step(0, 1, 1) -> 6
            text(0, 1) -> 0
            step(0, 2, 1) -> 8
            ahead() -> 3
            step(1, 0, 0) -> 3
            text(1, 1) -> 0
            step(1, 2, 0) -> 6
            step(1, 2, 1) -> 8
            """, """
            job(3, 6, 3) -> 0
            job(6, 8, 2) -> 1
            plan() -> 1
            ahead() -> 1
            """, """
            job(199, 200, 1000) -> 0
            plan() -> 1
            step(0, 0, 0) -> 199
            step(0, 0, 1) -> 200
            """);
    }

    private static void planStepCount() {
        sentence("10 step", "IndexOutOfBoundsException when there is no such step: of 12 jobs and the gaps between them", MOST_STEPS + """
            plan() -> 23
            ahead() -> 23
            step(0, 22, 0) -> 198
            step(0, 22, 1) -> 200
            step(0, 23, 0) -> throws.IndexOutOfBoundsException
            step(1, 22, 0) -> 198
            step(1, 22, 1) -> 200
            step(1, 23, 1) -> throws.IndexOutOfBoundsException
            text(0, 22) -> 6
            text(1, 22) -> 6
            text(0, 21) -> 0
            text(1, 21) -> 0
            print(0, 23) -> -1
            print(1, 23) -> -1
            check() -> 1
            text(7, 0) -> 1521
            text(8, 0) -> 1521
            near() -> 1521.0
            """);
    }

    private static void planIsCheapest() {
        sentence("Terms, THE PLAN", "the good profile that costs least: a stretch as dense as what is round it, one more, one less", """
            job(0, 6, 8) -> 0
            job(2, 4, 4) -> 1
            plan() -> 1
            text(0, 0) -> 2
            """, """
            job(0, 6, 8) -> 0
            job(2, 4, 5) -> 1
            plan() -> 3
            text(0, 0) -> 2
            text(0, 1) -> 5/2
            """, """
            job(0, 6, 8) -> 0
            job(2, 4, 3) -> 1
            plan() -> 1
            text(0, 0) -> 11/6
            text(2, 0) -> 6
            text(2, 1) -> 40/11
            """);
        sentence("Terms, A JOB", "It may be worked on from its release up to its deadline.", """
            job(5, 6, 9) -> 0
            plan() -> 1
            ahead() -> 1
            working(0, 4) -> -1
            working(0, 5) -> 0
            working(0, 6) -> -1
            working(1, 4) -> -1
            working(1, 5) -> 0
            working(1, 6) -> -1
            text(2, 0) -> 6
            text(3, 0) -> 6
            """, """
            job(0, 4, 40) -> 0
            job(2, 6, 6) -> 1
            job(1, 8, 4) -> 2
            plan() -> 3
            text(4, 0) -> 10
            text(4, 1) -> 3
            text(4, 2) -> 2
            text(2, 0) -> 4
            text(2, 1) -> 6
            text(2, 2) -> 8
            """);
    }

    private static void byDeadlines() {
        sentence("Terms, BY THE PLAN AND BY DEADLINES", "whose deadline is least, of several the one with the least number", """
            job(2, 4, 1) -> 0
            job(0, 4, 3) -> 1
            plan() -> 1
            working(0, 0) -> 1
            working(0, 2) -> 0
            working(0, 3) -> 1
            text(2, 0) -> 3
            text(2, 1) -> 4
            ahead() -> 2
            working(1, 1) -> 1
            working(1, 2) -> 0
            text(3, 0) -> 14/5
            text(3, 1) -> 4
            """, """
            job(0, 4, 3) -> 0
            job(2, 4, 1) -> 1
            plan() -> 1
            working(0, 2) -> 0
            text(2, 0) -> 3
            text(2, 1) -> 4
            """, """
            job(0, 5, 3) -> 0
            job(0, 4, 3) -> 1
            plan() -> 1
            working(0, 0) -> 1
            text(2, 1) -> 5/2
            text(2, 0) -> 5
            ahead() -> 1
            working(1, 0) -> 1
            text(3, 1) -> 5/2
            """);
    }

    private static void aheadWithoutJobs() {
        sentence("8 ahead", "how many steps its profile has: none without jobs", """
            ahead() -> 0
            text(8, 0) -> 0
            step(1, 0, 0) -> throws.IndexOutOfBoundsException
            print(1, 0) -> -1
            print(3, 0) -> -1
            working(1, 0) -> -1
            compare(8, 0, 8, 0) -> 0
            """ + PLAN_IS_GONE, """
            job(0, 1, 1) -> 0
            ahead() -> 1
            step(1, 0, 1) -> 1
            text(8, 0) -> 1
            """);
    }

    private static void aheadKeeps() {
        sentence("8 ahead", "Works out what comes of AHEAD: and nothing else", WORKED_OUT + """
            ahead() -> 5, all stays
            """, JOBS + LEVELS + """
            plan() -> 5
            split() -> 1
            text(9, 0) -> 125/2
            ahead() -> 5
            character(0) -> 49
            character(4) -> 50
            """ + PLAN_STANDS + SPLIT_STANDS + AHEAD_STANDS, JOBS + """
            ahead() -> 5
            """ + PLAN_IS_GONE + AHEAD_STANDS);
    }

    private static void aheadKnows() {
        sentence("Terms, AHEAD", "jobs become known at their releases alone", """
            job(0, 4, 4) -> 0
            job(2, 4, 4) -> 1
            ahead() -> 2
            text(1, 0) -> 1
            text(1, 1) -> 3
            step(1, 1, 0) -> 2
            text(3, 0) -> 8/3
            """, """
            job(0, 4, 4) -> 0
            job(0, 4, 4) -> 1
            ahead() -> 1
            text(1, 0) -> 2
            """, """
            job(0, 4, 4) -> 0
            job(3, 4, 4) -> 1
            ahead() -> 2
            text(1, 0) -> 1
            text(1, 1) -> 5
            step(1, 1, 0) -> 3
            """, """
            job(0, 10, 10) -> 0
            job(5, 20, 10) -> 1
            ahead() -> 1
            step(1, 0, 1) -> 20
            """, """
            job(0, 10, 10) -> 0
            job(5, 20, 9) -> 1
            ahead() -> 2
            step(1, 0, 1) -> 10
            text(1, 1) -> 9/10
            """, """
            job(0, 10, 10) -> 0
            job(5, 20, 11) -> 1
            ahead() -> 2
            step(1, 0, 1) -> 5
            text(1, 1) -> 16/15
            """);
    }

    private static void aheadDeadlines() {
        sentence("Terms, AHEAD", "over all deadlines d behind t ... of all known jobs with deadlines up to d", """
            job(0, 2, 2) -> 0
            job(0, 3, 9) -> 1
            ahead() -> 1
            text(1, 0) -> 11/3
            """, """
            job(0, 2, 8) -> 0
            job(0, 3, 1) -> 1
            ahead() -> 2
            text(1, 0) -> 4
            step(1, 0, 1) -> 2
            text(1, 1) -> 1
            """, """
            job(0, 2, 2) -> 0
            job(2, 4, 6) -> 1
            ahead() -> 2
            text(1, 1) -> 3
            text(3, 0) -> 2
            text(3, 1) -> 4
            """, """
            job(0, 2, 4) -> 0
            job(0, 4, 4) -> 1
            ahead() -> 1
            text(1, 0) -> 2
            """);
    }

    private static void splitWithoutPlan() {
        sentence("9 split", "IllegalStateException when there is no plan.", """
            split() -> throws.IllegalStateException, all stays
            plan() -> 0
            split() -> 1
            """, JOBS + LEVELS + """
            split() -> throws.IllegalStateException, all stays
            ahead() -> 5
            split() -> throws.IllegalStateException, all stays
            plan() -> 5
            split() -> 1
            job(0, 1, 1) -> 3
            split() -> throws.IllegalStateException, all stays
            plan() -> 5
            clear() -> 4
            split() -> throws.IllegalStateException, all stays
            """);
    }

    private static void splitAboveAllRates() {
        String fast = """
            job(0, 200, 801) -> 0
            level(4, 9) -> 1
            plan() -> 1
            ahead() -> 1
            print(0, 0) -> 7
            """;
        sentence("9 split", "1; 0, and nothing is split (what was before neither), when a job's speed is above all rates", fast + """
            split() -> 0, all stays
            """ + SPLIT_IS_GONE, fast.replace("801", "800").replace("-> 7", "-> 1") + """
            split() -> 1
            text(5, 0) -> 200
            text(6, 0) -> 0
            levelOf(0, 0) -> 0
            """, fast.replace("801", "799") + """
            split() -> 1
            text(5, 0) -> 1/4
            text(6, 0) -> 799/4
            levelOf(0, 0) -> -1
            """, fast + """
            level(5, 10) -> 2
            split() -> 1
            levelOf(0, 0) -> 0
            levelOf(0, 1) -> 1
            split() -> 1, all stays
            """, JOBS + """
            plan() -> 5
            split() -> 0, all stays
            level(3, 9) -> 1
            split() -> 0, all stays
            """ + SPLIT_IS_GONE + PLAN_STANDS, """
            job(0, 1, 9) -> 0
            level(10, 3) -> 1
            plan() -> 1
            split() -> 1
            job(0, 1, 9) -> 1
            plan() -> 1
            split() -> 0
            """ + SPLIT_IS_GONE, TWELVE_JOBS.replace("12, 1)", "1, 1000)") + """
            level(10000, 1000000) -> 1
            plan() -> 1
            split() -> 0
            """, TWELVE_JOBS.replace("12, 1)", "1, 833)") + """
            level(9996, 1000000) -> 1
            plan() -> 1
            split() -> 1
            text(9, 0) -> 1000000
            """);
    }

    private static void splitWithoutJobs() {
        sentence("9 split", "when a job's speed is above all rates: of no job it is, of each it is where there is no level", """
            plan() -> 0
            split() -> 1
            text(9, 0) -> 0
            levelOf(0, 0) -> -2
            print(5, 0) -> -1
            print(6, 0) -> -1
            """, """
            level(1, 1) -> 1
            plan() -> 0
            split() -> 1
            text(9, 0) -> 0
            """, """
            job(0, 200, 1) -> 0
            plan() -> 1
            split() -> 0
            """ + SPLIT_IS_GONE);
    }

    private static void splitNeighbours() {
        String between = """
            job(0, 10, 29) -> 0
            level(2, 1) -> 1
            level(3, 4) -> 2
            level(4, 9) -> 3
            plan() -> 1
            split() -> 1
            """;
        sentence("Terms, SPLIT", "at each of two neighbouring rates between which its speed is; at one rate, if its speed is that", between + """
            levelOf(0, 0) -> 0
            levelOf(0, 1) -> 1
            text(5, 0) -> 1
            text(6, 0) -> 9
            text(9, 0) -> 37
            """, between.replace("29", "30") + """
            levelOf(0, 0) -> 1
            levelOf(0, 1) -> 1
            text(5, 0) -> 10
            text(6, 0) -> 0
            text(9, 0) -> 40
            """, between.replace("29", "31") + """
            levelOf(0, 0) -> 1
            levelOf(0, 1) -> 2
            text(5, 0) -> 9
            text(6, 0) -> 1
            text(9, 0) -> 45
            """, between.replace("29", "40") + """
            levelOf(0, 0) -> 2
            levelOf(0, 1) -> 2
            text(9, 0) -> 90
            """);
        sentence("Terms, LEVELS", "Not to work is rate 0 and costs 0.", between.replace("29", "1") + """
            levelOf(0, 0) -> -1
            levelOf(0, 1) -> 0
            text(5, 0) -> 19/2
            text(6, 0) -> 1/2
            text(9, 0) -> 1/2
            """, between.replace("29", "20") + """
            levelOf(0, 0) -> 0
            levelOf(0, 1) -> 0
            text(5, 0) -> 10
            text(9, 0) -> 10
            """);
    }

    private static void stepRange() {
        sentence("10 step", "IndexOutOfBoundsException when there is no such step, or it is not worked out", """
            step(0, 0, 0) -> throws.IndexOutOfBoundsException, all stays
            step(1, 0, 1) -> throws.IndexOutOfBoundsException, all stays
            job(2, 5, 9) -> 0
            step(0, 0, 0) -> throws.IndexOutOfBoundsException
            plan() -> 1
            step(0, 0, 0) -> 2
            step(0, 0, 1) -> 5
            step(1, 0, 0) -> throws.IndexOutOfBoundsException
            ahead() -> 1
            step(1, 0, 0) -> 2
            step(1, 0, 1) -> 5
            """, """
            ahead() -> 0
            job(2, 5, 9) -> 0
            ahead() -> 1
            step(0, 0, 0) -> throws.IndexOutOfBoundsException
            step(1, 0, 0) -> 2
            """, WORKED_OUT + """
            step(0, 4, 0) -> 7
            step(1, 4, 1) -> 9
            step(0, 5, 0) -> throws.IndexOutOfBoundsException, all stays
            step(1, 5, 1) -> throws.IndexOutOfBoundsException, all stays
            step(0, -1, 0) -> throws.IndexOutOfBoundsException, all stays
            step(1, -1, 1) -> throws.IndexOutOfBoundsException, all stays
            step(0, LEAST, 0) -> throws.IndexOutOfBoundsException
            step(1, LEAST, 0) -> throws.IndexOutOfBoundsException
            step(0, MOST, 1) -> throws.IndexOutOfBoundsException
            step(1, MOST, 1) -> throws.IndexOutOfBoundsException
            clear() -> 3
            job(0, 1, 1) -> 0
            plan() -> 1
            ahead() -> 1
            step(0, 1, 0) -> throws.IndexOutOfBoundsException
            step(1, 1, 0) -> throws.IndexOutOfBoundsException
            """);
    }

    private static void stepLooksFirst() {
        sentence("10 step", "IllegalArgumentException when there is no such kind or part (looked at first)", """
            step(-1, 0, 0) -> throws.IllegalArgumentException
            step(2, 0, 0) -> throws.IllegalArgumentException
            step(0, 0, -1) -> throws.IllegalArgumentException
            step(1, 0, 2) -> throws.IllegalArgumentException
            step(0, -1, 2) -> throws.IllegalArgumentException
            step(2, LEAST, 0) -> throws.IllegalArgumentException
            """, WORKED_OUT + """
            step(0, 0, 0) -> 0
            step(1, 0, 1) -> 2
            step(-1, 0, 0) -> throws.IllegalArgumentException, all stays
            step(2, 0, 0) -> throws.IllegalArgumentException, all stays
            step(0, 0, -1) -> throws.IllegalArgumentException, all stays
            step(0, 0, 2) -> throws.IllegalArgumentException, all stays
            step(1, 0, -1) -> throws.IllegalArgumentException
            step(1, 0, 2) -> throws.IllegalArgumentException
            step(LEAST, 0, 0) -> throws.IllegalArgumentException
            step(MOST, 0, 1) -> throws.IllegalArgumentException
            step(0, 0, LEAST) -> throws.IllegalArgumentException
            step(1, 0, MOST) -> throws.IllegalArgumentException
            step(2, 99, 0) -> throws.IllegalArgumentException
            step(-1, -1, 1) -> throws.IllegalArgumentException
            step(0, 99, 2) -> throws.IllegalArgumentException
            step(1, -1, -1) -> throws.IllegalArgumentException
            """);
    }

    private static void printRange() {
        sentence("11 print", "NONE, and what was printed stays, when there is none such: the first and last of each, the one behind", WORKED_OUT + """
            text(0, 0) -> 3/2
            text(0, 4) -> 3/2
            print(0, 5) -> -1
            print(0, -1) -> -1
            text(1, 0) -> 1
            text(1, 4) -> 3/2
            print(1, 5) -> -1
            print(1, -1) -> -1
            text(2, 0) -> 6
            text(2, 2) -> 9
            print(2, 3) -> -1
            print(2, -1) -> -1
            text(3, 0) -> 6
            text(3, 2) -> 9
            print(3, 3) -> -1
            print(3, -1) -> -1
            text(4, 0) -> 3/2
            text(4, 2) -> 3/2
            print(4, 3) -> -1
            print(4, -1) -> -1
            text(5, 0) -> 3
            text(5, 2) -> 3/2
            print(5, 3) -> -1
            print(5, -1) -> -1
            text(6, 0) -> 1
            text(6, 2) -> 1/2
            print(6, 3) -> -1
            print(6, -1) -> -1
            """, WORKED_OUT + """
            print(0, LEAST) -> -1
            print(1, MOST) -> -1
            print(2, LEAST) -> -1
            print(3, MOST) -> -1
            print(4, LEAST) -> -1
            print(5, MOST) -> -1
            print(6, LEAST) -> -1
            print(-1, 0) -> -1
            print(10, 0) -> -1
            print(LEAST, 0) -> -1
            print(MOST, 0) -> -1
            character(0) -> 53
            """, TWELVE_JOBS + """
            plan() -> 1
            ahead() -> 1
            level(1, 1) -> 1
            split() -> 1
            text(2, 11) -> 12
            text(3, 11) -> 12
            text(4, 11) -> 1
            text(5, 11) -> 1
            text(6, 11) -> 0
            print(2, 12) -> -1
            print(3, 12) -> -1
            print(4, 12) -> -1
            print(5, 12) -> -1
            print(6, 12) -> -1
            """);
        sentence("11 print", "what the plan (7), AHEAD (8), the split plan (9) cost, i being 0", WORKED_OUT + """
            text(7, 0) -> 593/4
            text(8, 0) -> 611/4
            text(9, 0) -> 125/2
            print(7, 1) -> -1, all stays
            print(8, 1) -> -1, all stays
            print(9, 1) -> -1, all stays
            print(7, -1) -> -1
            print(8, -1) -> -1
            print(9, -1) -> -1
            print(7, LEAST) -> -1
            print(8, MOST) -> -1
            print(9, MOST) -> -1
            """);
    }

    private static void printKeeps() {
        sentence("11 print", "NONE, and what was printed stays, when it is not worked out", JOBS + LEVELS + """
            print(0, 0) -> -1
            character(0) -> -1
            ahead() -> 5
            text(8, 0) -> 611/4
            print(0, 0) -> -1, all stays
            print(2, 0) -> -1, all stays
            print(4, 0) -> -1, all stays
            print(5, 0) -> -1, all stays
            print(6, 0) -> -1, all stays
            print(7, 0) -> -1, all stays
            print(9, 0) -> -1, all stays
            character(0) -> 54
            character(5) -> -1
            """, JOBS + LEVELS + """
            plan() -> 5
            text(7, 0) -> 593/4
            print(1, 0) -> -1, all stays
            print(3, 0) -> -1, all stays
            print(8, 0) -> -1, all stays
            print(5, 0) -> -1, all stays
            print(9, 0) -> -1, all stays
            """, WORKED_OUT + """
            print(0, 5) -> -1, all stays
            print(2, -1) -> -1, all stays
            print(10, 0) -> -1, all stays
            print(-1, 0) -> -1, all stays
            """);
    }

    private static void printWritesFractions() {
        sentence("11 print", "the number above in decimal, and, if that below is not 1, '/' and it: how many characters", """
            job(0, 2, 4) -> 0
            job(3, 5, 5) -> 1
            plan() -> 3
            print(0, 0) -> 1
            character(0) -> 50
            character(1) -> -1
            print(0, 1) -> 1
            character(0) -> 48
            character(1) -> -1
            print(0, 2) -> 3
            character(0) -> 53
            character(1) -> 47
            character(2) -> 50
            character(3) -> -1
            """);
        sentence("Terms, FRACTIONS", "exact, in least terms: numbers below, at and above a round one", """
            job(0, 1, 1000) -> 0
            plan() -> 1
            text(7, 0) -> 1000000000
            """, """
            job(0, 1, 999) -> 0
            plan() -> 1
            text(7, 0) -> 997002999
            """, """
            job(0, 1, 1000) -> 0
            job(1, 2, 1) -> 1
            plan() -> 2
            text(7, 0) -> 1000000001
            """, """
            job(0, 8, 6) -> 0
            plan() -> 1
            text(0, 0) -> 3/4
            text(7, 0) -> 27/8
            """, TWELVE_JOBS.replace("12, 1)", "1, 1000)") + """
            plan() -> 1
            ahead() -> 1
            text(0, 0) -> 12000
            text(2, 0) -> 1/12
            text(2, 11) -> 1
            text(7, 0) -> 1728000000000
            text(8, 0) -> 1728000000000
            """, """
            job(0, 200, 1) -> 0
            plan() -> 1
            text(0, 0) -> 1/200
            text(7, 0) -> 1/40000
            """);
    }

    private static void printSplitTimes() {
        sentence("11 print", "at the lesser one of its rates when split (5; the whole time, if it is one rate alone), at the greater one (6; 0 then)", """
            job(0, 7, 6) -> 0
            job(8, 11, 6) -> 1
            level(2, 1) -> 1
            plan() -> 3
            split() -> 1
            text(5, 0) -> 4
            text(6, 0) -> 3
            text(5, 1) -> 3
            text(6, 1) -> 0
            """);
    }

    private static void character() {
        sentence("12 character", "Character i of what was printed latest; NONE when there is none.", """
            character(0) -> -1
            plan() -> 0
            character(0) -> -1
            print(7, 0) -> 1
            character(-1) -> -1
            character(0) -> 48
            character(1) -> -1
            """, WORKED_OUT + """
            character(-1) -> -1, all stays
            character(0) -> 53
            character(4) -> 52
            character(5) -> -1, all stays
            character(LEAST) -> -1
            character(MOST) -> -1
            print(4, 1) -> 1
            character(0) -> 52
            character(1) -> -1
            print(4, 9) -> -1
            character(0) -> 52
            plan() -> 5
            ahead() -> 5
            split() -> 1
            compare(7, 0, 8, 0) -> -1
            character(0) -> 52
            level(5, 30) -> 4
            character(0) -> 52
            job(0, 1, 1) -> 3
            character(0) -> 52
            clear() -> 4
            character(0) -> 52
            character(1) -> -1
            """);
    }

    private static void compareRange() {
        sentence("13 compare", "-2 when there is none such", WORKED_OUT + """
            compare(0, 4, 0, 4) -> 0
            compare(0, 5, 0, 4) -> -2, all stays
            compare(0, 4, 0, 5) -> -2, all stays
            compare(0, -1, 0, 4) -> -2
            compare(0, 4, 0, -1) -> -2
            compare(1, 4, 0, 4) -> 0
            compare(1, 5, 0, 4) -> -2
            compare(0, 4, 1, 5) -> -2
            compare(2, 2, 3, 2) -> 0
            compare(2, 3, 3, 2) -> -2
            compare(2, 2, 3, 3) -> -2
            compare(4, 2, 4, 0) -> 0
            compare(4, 3, 4, 0) -> -2
            compare(4, 0, 4, 3) -> -2
            compare(5, 2, 5, 0) -> -1
            compare(5, 3, 5, 0) -> -2
            compare(5, 0, 6, 3) -> -2
            compare(7, 0, 8, 0) -> -1
            compare(7, 1, 8, 0) -> -2
            compare(7, 0, 8, 1) -> -2
            compare(9, 0, 9, 1) -> -2
            compare(9, -1, 9, 0) -> -2
            """, WORKED_OUT + """
            compare(-1, 0, 0, 0) -> -2, all stays
            compare(0, 0, -1, 0) -> -2, all stays
            compare(10, 0, 0, 0) -> -2
            compare(0, 0, 10, 0) -> -2
            compare(LEAST, 0, 0, 0) -> -2
            compare(0, 0, MOST, 0) -> -2
            compare(0, LEAST, 0, 0) -> -2
            compare(0, 0, 0, MOST) -> -2
            compare(10, -1, -1, 10) -> -2
            """, JOBS + """
            compare(7, 0, 7, 0) -> -2
            plan() -> 5
            compare(7, 0, 8, 0) -> -2
            compare(8, 0, 7, 0) -> -2
            compare(7, 0, 9, 0) -> -2
            compare(7, 0, 7, 0) -> 0
            """);
    }

    private static void compareExactly() {
        sentence("13 compare", "Compares two fractions as for print(): -1, 0, 1", WORKED_OUT + """
            compare(0, 0, 0, 1) -> -1, all stays
            compare(0, 1, 0, 0) -> 1, all stays
            compare(0, 0, 4, 2) -> 0, all stays
            compare(0, 3, 0, 0) -> -1
            compare(9, 0, 7, 0) -> -1
            compare(8, 0, 9, 0) -> 1
            """, """
            job(0, 100, 999) -> 0
            job(100, 199, 989) -> 1
            plan() -> 2
            compare(0, 0, 0, 1) -> 1
            compare(0, 1, 0, 0) -> -1
            """, """
            job(0, 100, 1000) -> 0
            job(100, 199, 990) -> 1
            job(199, 200, 10) -> 2
            plan() -> 1
            compare(4, 0, 4, 1) -> 0
            """, TWELVE_JOBS.replace("12, 1)", "1, 833)") + """
            level(10000, 1000000) -> 1
            plan() -> 1
            split() -> 1
            compare(7, 0, 9, 0) -> 1
            compare(9, 0, 7, 0) -> -1
            """);
    }

    private static void levelOfRange() {
        sentence("14 levelOf", "NONE - 1 when there is no such job or part, or nothing is split", WORKED_OUT + """
            levelOf(0, 0) -> 0
            levelOf(2, 1) -> 1
            levelOf(3, 0) -> -2, all stays
            levelOf(-1, 0) -> -2, all stays
            levelOf(0, -1) -> -2, all stays
            levelOf(0, 2) -> -2, all stays
            levelOf(LEAST, 0) -> -2
            levelOf(MOST, 1) -> -2
            levelOf(0, LEAST) -> -2
            levelOf(0, MOST) -> -2
            levelOf(12, 0) -> -2
            """, JOBS + LEVELS + """
            levelOf(0, 0) -> -2
            plan() -> 5
            levelOf(0, 0) -> -2
            levelOf(0, 1) -> -2
            split() -> 1
            levelOf(0, 0) -> 0
            """, TWELVE_JOBS + EIGHT_LEVELS + """
            plan() -> 1
            split() -> 1
            levelOf(11, 0) -> 0
            levelOf(12, 0) -> -2
            """);
    }

    private static void levelOfPairs() {
        sentence("14 levelOf", "from 0; NONE for rate 0; the same level twice, if it is one rate alone", EIGHT_LEVELS + """
            job(0, 2, 1) -> 0
            job(2, 4, 2) -> 1
            job(4, 6, 3) -> 2
            job(6, 8, 14) -> 3
            job(8, 10, 15) -> 4
            plan() -> 5
            split() -> 1
            levelOf(0, 0) -> -1
            levelOf(0, 1) -> 0
            levelOf(1, 0) -> 0
            levelOf(1, 1) -> 0
            levelOf(2, 0) -> 0
            levelOf(2, 1) -> 1
            levelOf(3, 0) -> 6
            levelOf(3, 1) -> 6
            levelOf(4, 0) -> 6
            levelOf(4, 1) -> 7
            """);
    }

    private static void nearWithoutPlan() {
        sentence("15 near", "0 when there is no plan", """
            near() -> 0.0
            job(0, 1, 2) -> 0
            near() -> 0.0
            ahead() -> 1
            near() -> 0.0
            plan() -> 1
            near() -> 8.0
            job(2, 2, 1) -> -1
            near() -> 8.0
            job(2, 3, 1) -> 1
            near() -> 0.0
            plan() -> 3
            near() -> 9.0
            clear() -> 2
            near() -> 0.0
            plan() -> 0
            near() -> 0.0
            """);
    }

    private static void nearRounds() {
        sentence("15 near", "from 0 on each step's length times ((s s) s) is added ... each operation rounded", """
            job(0, 3, 5) -> 0
            job(3, 8, 13) -> 1
            job(8, 15, 10) -> 2
            plan() -> 3
            near() -> 122.17705215419504
            speed(0.0) -> 1.6666666666666667
            """, TWELVE_JOBS.replace("12, 1)", "1, 1000)") + """
            plan() -> 1
            near() -> 1.728E12
            """);
    }

    private static void speedRange() {
        sentence("16 speed", "the step which begins at t or before and ends behind t; 0 for other times", """
            job(1, 4, 1) -> 0
            job(6, 8, 5) -> 1
            job(8, 9, 4) -> 2
            plan() -> 4
            speed(0.9999999999999999) -> 0.0
            speed(1.0) -> 0.3333333333333333
            speed(3.9999999999999996) -> 0.3333333333333333
            speed(4.0) -> 0.0
            speed(5.999999999999999) -> 0.0
            speed(6.0) -> 2.5
            speed(7.999999999999999) -> 2.5
            speed(8.0) -> 4.0
            speed(8.999999999999998) -> 4.0
            speed(9.0) -> 0.0
            speed(0.0) -> 0.0
            speed(-1.0) -> 0.0
            speed(200.0) -> 0.0
            speed(-Infinity) -> 0.0
            speed(Infinity) -> 0.0
            speed(NaN) -> 0.0
            speed(1.7976931348623157E308) -> 0.0
            speed(4294967297.0) -> 0.0
            """, """
            job(0, 200, 200) -> 0
            plan() -> 1
            speed(0.0) -> 1.0
            speed(-0.0) -> 1.0
            speed(-4.9E-324) -> 0.0
            speed(4.9E-324) -> 1.0
            speed(199.99999999999997) -> 1.0
            speed(200.0) -> 0.0
            """);
        sentence("16 speed", "and when there is no plan", """
            speed(0.0) -> 0.0
            job(0, 2, 2) -> 0
            ahead() -> 1
            speed(1.0) -> 0.0
            plan() -> 1
            speed(1.0) -> 1.0
            job(0, 2, 2) -> 1
            speed(1.0) -> 0.0
            plan() -> 1
            speed(1.0) -> 2.0
            clear() -> 2
            speed(1.0) -> 0.0
            """);
    }

    private static void workingRange() {
        sentence("17 working", "NONE when none is, it is not worked out, or there is no such kind", """
            working(0, 0) -> -1
            working(1, 0) -> -1
            job(0, 200, 1) -> 0
            plan() -> 1
            working(0, 0) -> 0
            working(1, 0) -> -1
            ahead() -> 1
            working(0, -1) -> -1, all stays
            working(1, -1) -> -1, all stays
            working(0, 199) -> 0
            working(1, 199) -> 0
            working(0, 200) -> -1, all stays
            working(1, 200) -> -1, all stays
            working(0, 201) -> -1
            working(0, LEAST) -> -1
            working(1, MOST) -> -1
            working(-1, 0) -> -1, all stays
            working(2, 0) -> -1, all stays
            working(LEAST, 0) -> -1
            working(MOST, 0) -> -1
            job(0, 1, 1) -> 1
            working(0, 0) -> -1
            working(1, 0) -> -1
            ahead() -> 2
            working(0, 0) -> -1
            working(1, 0) -> 1
            """);
    }

    private static void workingTurns() {
        sentence("17 working", "at a whole time t and for a while behind it", JOBS + """
            plan() -> 5
            ahead() -> 5
            working(0, 1) -> 0
            working(0, 2) -> 1
            working(0, 3) -> 1
            working(0, 4) -> 0
            working(0, 5) -> 0
            working(0, 6) -> -1
            working(0, 7) -> 2
            working(0, 8) -> 2
            working(0, 9) -> -1
            working(1, 1) -> 0
            working(1, 2) -> 1
            working(1, 4) -> 0
            working(1, 6) -> -1
            working(1, 7) -> 2
            working(1, 9) -> -1
            """, """
            job(0, 2, 2) -> 0
            job(0, 4, 2) -> 1
            plan() -> 1
            working(0, 1) -> 0
            working(0, 2) -> 1
            ahead() -> 1
            working(1, 1) -> 0
            working(1, 2) -> 1
            """, """
            job(0, 4, 3) -> 0
            job(0, 4, 3) -> 1
            plan() -> 1
            text(2, 0) -> 2
            working(0, 1) -> 0
            working(0, 2) -> 1
            """, """
            job(0, 4, 5) -> 0
            job(0, 4, 3) -> 1
            plan() -> 1
            text(2, 0) -> 5/2
            working(0, 2) -> 0
            working(0, 3) -> 1
            ahead() -> 1
            working(1, 2) -> 0
            working(1, 3) -> 1
            """);
    }

    private static void check() {
        sentence("18 check", "NONE when there is no plan.", """
            check() -> -1
            ahead() -> 0
            check() -> -1
            plan() -> 0
            check() -> 1
            job(0, 1, 0) -> -1
            check() -> 1
            job(0, 1, 1) -> 0
            check() -> -1
            plan() -> 1
            check() -> 1
            clear() -> 1
            check() -> -1
            """);
        sentence("18 check", "what the plan costs is not more than what AHEAD costs (if that is worked out): 1", """
            job(0, 4, 4) -> 0
            plan() -> 1
            ahead() -> 1
            compare(7, 0, 8, 0) -> 0
            check() -> 1, all stays
            """, WORKED_OUT + """
            compare(7, 0, 8, 0) -> -1
            check() -> 1, all stays
            level(5, 50) -> 4
            check() -> 1
            """, """
            job(0, 4, 4) -> 0
            job(2, 4, 4) -> 1
            plan() -> 1
            check() -> 1
            ahead() -> 2
            check() -> 1
            plan() -> 1
            check() -> 1
            """, TWELVE_JOBS.replace("12, 1)", "1, 1000)") + """
            plan() -> 1
            check() -> 1
            ahead() -> 1
            check() -> 1
            """);
    }

    private static void throwsChangeNothing() {
        sentence("Terms", "What throws changes nothing.", """
            split() -> throws.IllegalStateException, all stays
            step(0, 0, 0) -> throws.IndexOutOfBoundsException, all stays
            step(7, 0, 0) -> throws.IllegalArgumentException, all stays
            """, WORKED_OUT + """
            step(0, 99, 0) -> throws.IndexOutOfBoundsException, all stays
            step(1, 99, 0) -> throws.IndexOutOfBoundsException, all stays
            step(0, 0, 9) -> throws.IllegalArgumentException, all stays
            """ + PLAN_STANDS + AHEAD_STANDS + SPLIT_STANDS, JOBS + LEVELS + """
            ahead() -> 5
            text(8, 0) -> 611/4
            split() -> throws.IllegalStateException, all stays
            """ + AHEAD_STANDS);
    }
}
