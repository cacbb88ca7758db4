/** Promises 6 to 9, 12 and 13: times, distinct, gone, hottest, visits and arc. */
public final class CountsTest {
    private static final Check CHECK = new Check();
    private static final int BAD_ARG = PathProfiler.BAD_ARG;
    private static final int NONE = PathProfiler.NONE;

    public static void main(String[] args) {
        countsOfSomeRuns();
        hottestOfEqualOnes();
        hottestIsTheMostOftenGone();
        onlyUnfinishedRuns();
        arcsBetweenNeighboursOnly();
        arcWithoutForwardArc();
        refusals();
        manyRuns();
        CHECK.end();
    }

    /** 0 to 1 or 2; both to 3; 3 back to 1 or on to the exit 4. */
    private static PathProfiler diamond() {
        PathProfiler x = new PathProfiler();
        x.lead(0, 1, 2);
        x.lead(1, 3, -1);
        x.lead(2, 3, -1);
        x.lead(3, 1, 4);
        return x;
    }

    private static void countsOfSomeRuns() {
        PathProfiler x = diamond();
        CHECK.due("run(1, 3): 0 2 3, 1 3, 1 3 unfinished", x.run(1, 3), 6);
        CHECK.due("run(4, 3): 0 1 3, 1 3 4", x.run(4, 3), 5);
        CHECK.due("run(3, 2): 0 2 3 4", x.run(3, 2), 3);
        int[][] times = {{24, 1}, {245, 1}, {124, 1}, {134, 1}, {1345, 1}, {1245, 0}};
        for (int[] t : times) {
            CHECK.due("times(" + t[0] + ")", x.times(t[0]), t[1]);
        }
        CHECK.due("distinct()", x.distinct(), 5);
        CHECK.due("gone()", x.gone(), 5);
        CHECK.due("possible()", x.possible(), 6);
        CHECK.due("hottest()", x.hottest(), 24);
        CHECK.due("unfinished()", x.unfinished(), 1);
        int[] visits = {3, 3, 2, 5, 2, 0, 0, 0, 0};
        for (int b = 0; b <= 8; b++) {
            CHECK.due("visits(" + b + ")", x.visits(b), visits[b]);
        }
        int[][] arcs = {{0, 1, 1}, {0, 2, 2}, {1, 3, 3}, {2, 3, 2}, {3, 4, 2}, {3, 1, 0}, {0, 3, 0}};
        for (int[] a : arcs) {
            CHECK.due("arc(" + a[0] + ", " + a[1] + ")", x.arc(a[0], a[1]), a[2]);
        }
        x.run(3, 2);
        CHECK.due("times(1345) after one more", x.times(1345), 2);
        CHECK.due("distinct() after one more", x.distinct(), 5);
        CHECK.due("gone() after one more", x.gone(), 6);
        CHECK.due("hottest() after one more", x.hottest(), 1345);
    }

    private static void hottestOfEqualOnes() {
        PathProfiler x = new PathProfiler();
        x.lead(0, 1, 8);
        x.lead(1, 2, -1);
        x.run(0, 1);
        CHECK.due("hottest() of one", x.hottest(), 123);
        x.run(1, 1);
        CHECK.due("hottest() of two", x.hottest(), 19);
        x.run(0, 1);
        CHECK.due("hottest() with more", x.hottest(), 123);
    }

    private static void hottestIsTheMostOftenGone() {
        PathProfiler x = new PathProfiler();
        x.lead(0, 0, 1);
        x.run(1, 1);
        CHECK.due("hottest() 12", x.hottest(), 12);
        x.run(2, 2);
        CHECK.due("hottest() still 12", x.hottest(), 12);
        x.run(0, 1);
        CHECK.due("hottest() 1", x.hottest(), 1);
    }

    private static void onlyUnfinishedRuns() {
        PathProfiler x = new PathProfiler();
        x.lead(0, 1, 2);
        x.run(0, 0);
        CHECK.due("hottest()", x.hottest(), NONE);
        CHECK.due("distinct()", x.distinct(), 0);
        CHECK.due("gone()", x.gone(), 0);
        CHECK.due("visits(0)", x.visits(0), 0);
        CHECK.due("times(12)", x.times(12), 0);
        CHECK.due("unfinished()", x.unfinished(), 1);
    }

    private static void arcsBetweenNeighboursOnly() {
        PathProfiler x = new PathProfiler();
        x.lead(0, 1, 2);
        x.lead(1, 2, -1);
        x.lead(2, 8, -1);
        x.run(0, 1);
        CHECK.due("arc(0, 2), 0 and 2 in the path by way of 1", x.arc(0, 2), 0);
        CHECK.due("arc(0, 1)", x.arc(0, 1), 1);
        CHECK.due("arc(1, 2)", x.arc(1, 2), 1);
        CHECK.due("arc(2, 8)", x.arc(2, 8), 1);
        x.run(1, 1);
        CHECK.due("arc(0, 2) gone", x.arc(0, 2), 1);
        CHECK.due("arc(2, 8) gone again", x.arc(2, 8), 2);
    }

    private static void arcWithoutForwardArc() {
        PathProfiler x = diamond();
        x.run(0, 24);
        CHECK.due("back arc(3, 1)", x.arc(3, 1), 0);
        CHECK.due("turned round arc(3, 0)", x.arc(3, 0), 0);
        CHECK.due("no arc(0, 4)", x.arc(0, 4), 0);
        CHECK.due("no arc(4, 5)", x.arc(4, 5), 0);
        x.lead(0, 0, 1);
        x.run(2, 2);
        CHECK.due("loop arc(0, 0)", x.arc(0, 0), 0);
    }

    private static void refusals() {
        PathProfiler x = diamond();
        x.run(3, 2);
        int[] wide = {Integer.MIN_VALUE, -33, -2, -1, 9, 10, 31, 32, 33, Integer.MAX_VALUE};
        for (int w : wide) {
            CHECK.due("visits(" + w + ")", x.visits(w), BAD_ARG);
            for (int b = 0; b <= 8; b++) {
                CHECK.due("arc(" + w + ", " + b + ")", x.arc(w, b), 0);
                CHECK.due("arc(" + b + ", " + w + ")", x.arc(b, w), 0);
            }
            CHECK.due("arc(" + w + ", " + w + ")", x.arc(w, w), 0);
        }
        CHECK.due("gone() after refusals", x.gone(), 1);
    }

    private static void manyRuns() {
        PathProfiler x = new PathProfiler();
        x.lead(0, 0, -1);
        for (int i = 0; i < 500; i++) {
            x.run(0, 0);
        }
        CHECK.due("times(1) after 500 runs", x.times(1), 20000);
        CHECK.due("gone() after 500 runs", x.gone(), 20000);
        CHECK.due("visits(0) after 500 runs", x.visits(0), 20000);
        CHECK.due("unfinished() after 500 runs", x.unfinished(), 500);
        CHECK.due("distinct() after 500 runs", x.distinct(), 1);
        CHECK.due("hottest() after 500 runs", x.hottest(), 1);
    }
}
