/** Promises 1 to 3: a new object, lead and successors; and that a refused lead changes nothing. */
public final class BlocksTest {
    private static final Check CHECK = new Check();
    private static final int BAD_ARG = PathProfiler.BAD_ARG;
    private static final int NONE = PathProfiler.NONE;

    public static void main(String[] args) {
        newObject();
        leadAnswersTheNumberBefore();
        everyBlockCanLeadToEveryBlock();
        leadRefuses();
        refusedLeadChangesNothing();
        successorsRefuses();
        changedSuccessorForgetsCounts();
        sameSuccessorsKeepCounts();
        objectsAreApart();
        CHECK.end();
    }

    private static void newObject() {
        PathProfiler x = new PathProfiler();
        for (int b = 0; b <= 8; b++) {
            CHECK.due("new: successors(" + b + ")", x.successors(b), 0);
            CHECK.due("new: visits(" + b + ")", x.visits(b), 0);
            CHECK.due("new: through(" + b + ")", x.through(b), b == 0 ? 1 : 0);
        }
        CHECK.due("new: possible()", x.possible(), 1);
        CHECK.due("new: path(0)", x.path(0), 1);
        CHECK.due("new: path(1)", x.path(1), NONE);
        CHECK.due("new: times(1)", x.times(1), 0);
        CHECK.due("new: gone()", x.gone(), 0);
        CHECK.due("new: distinct()", x.distinct(), 0);
        CHECK.due("new: hottest()", x.hottest(), NONE);
        CHECK.due("new: unfinished()", x.unfinished(), 0);
        CHECK.due("new: longest()", x.longest(), 1);
        CHECK.due("new: run(-1, 24)", x.run(-1, 24), 0);
        CHECK.due("new: times(1) after a run", x.times(1), 1);
    }

    private static void leadAnswersTheNumberBefore() {
        PathProfiler x = new PathProfiler();
        CHECK.due("lead(3, 4, -1) from none", x.lead(3, 4, -1), 0);
        CHECK.due("successors(3) is 1", x.successors(3), 1);
        CHECK.due("lead(3, 4, 3) from one", x.lead(3, 4, 3), 1);
        CHECK.due("successors(3) is 2", x.successors(3), 2);
        CHECK.due("lead(3, 4, 3) again", x.lead(3, 4, 3), 2);
        CHECK.due("lead(3, 0, -1) from two", x.lead(3, 0, -1), 2);
        CHECK.due("lead(3, -1, -1) from one", x.lead(3, -1, -1), 1);
        CHECK.due("lead(3, -1, -1) from none", x.lead(3, -1, -1), 0);
        CHECK.due("successors(3) is 0", x.successors(3), 0);
        CHECK.due("successors(2) untouched", x.successors(2), 0);
    }

    private static void everyBlockCanLeadToEveryBlock() {
        for (int b = 0; b <= 8; b++) {
            for (int c = 0; c <= 8; c++) {
                for (int d = -1; d <= 8; d++) {
                    PathProfiler x = new PathProfiler();
                    boolean refused = c == d;
                    String call = "lead(" + b + ", " + c + ", " + d + ")";
                    CHECK.due(call, x.lead(b, c, d), refused ? BAD_ARG : 0);
                    int count = refused ? 0 : d == -1 ? 1 : 2;
                    CHECK.due("successors after " + call, x.successors(b), count);
                }
            }
        }
    }

    private static void leadRefuses() {
        int[] wide = {Integer.MIN_VALUE, -10, -2, 9, 10, 31, 32, Integer.MAX_VALUE};
        PathProfiler x = new PathProfiler();
        for (int w : wide) {
            CHECK.due("lead(" + w + ", -1, -1)", x.lead(w, -1, -1), BAD_ARG);
            CHECK.due("lead(" + w + ", 1, 2)", x.lead(w, 1, 2), BAD_ARG);
            CHECK.due("lead(0, " + w + ", -1)", x.lead(0, w, -1), BAD_ARG);
            CHECK.due("lead(0, " + w + ", 1)", x.lead(0, w, 1), BAD_ARG);
            CHECK.due("lead(0, 1, " + w + ")", x.lead(0, 1, w), BAD_ARG);
            CHECK.due("lead(0, -1, " + w + ")", x.lead(0, -1, w), BAD_ARG);
            CHECK.due("lead(0, " + w + ", " + w + ")", x.lead(0, w, w), BAD_ARG);
        }
        CHECK.due("lead(-1, -1, -1)", x.lead(-1, -1, -1), BAD_ARG);
        CHECK.due("lead(-1, 1, 2)", x.lead(-1, 1, 2), BAD_ARG);
        for (int b = 0; b <= 8; b++) {
            CHECK.due("lead(0, -1, " + b + ")", x.lead(0, -1, b), BAD_ARG);
            CHECK.due("lead(0, " + b + ", " + b + ")", x.lead(0, b, b), BAD_ARG);
        }
        CHECK.due("possible() after refused leads", x.possible(), 1);
        CHECK.due("successors(0) after refused leads", x.successors(0), 0);
    }

    private static void refusedLeadChangesNothing() {
        PathProfiler x = new PathProfiler();
        x.lead(0, 1, 0);
        x.run(2, 2);
        x.run(0, 1);
        CHECK.due("lead(0, 2, 2)", x.lead(0, 2, 2), BAD_ARG);
        CHECK.due("lead(0, -1, 2)", x.lead(0, -1, 2), BAD_ARG);
        CHECK.due("lead(0, 9, -1)", x.lead(0, 9, -1), BAD_ARG);
        CHECK.due("lead(0, 2, 9)", x.lead(0, 2, 9), BAD_ARG);
        CHECK.due("lead(0, 2, -2)", x.lead(0, 2, -2), BAD_ARG);
        CHECK.due("lead(9, -1, -1)", x.lead(9, -1, -1), BAD_ARG);
        CHECK.due("successors(0) kept", x.successors(0), 2);
        CHECK.due("gone() kept", x.gone(), 2);
        CHECK.due("unfinished() kept", x.unfinished(), 0);
        CHECK.due("possible() kept", x.possible(), 2);
    }

    private static void successorsRefuses() {
        PathProfiler x = new PathProfiler();
        int[] wide = {Integer.MIN_VALUE, -2, -1, 9, 10, 32, Integer.MAX_VALUE};
        for (int w : wide) {
            CHECK.due("successors(" + w + ")", x.successors(w), BAD_ARG);
        }
    }

    /** Two paths gone and one unfinished run. */
    private static PathProfiler counted() {
        PathProfiler x = new PathProfiler();
        x.lead(0, 1, 2);
        x.lead(1, 0, -1);
        x.run(2, 2);
        x.run(0, 0);
        CHECK.due("counted: gone()", x.gone(), 2);
        CHECK.due("counted: unfinished()", x.unfinished(), 1);
        return x;
    }

    private static void forgotten(String after, PathProfiler x) {
        CHECK.due(after + ": gone()", x.gone(), 0);
        CHECK.due(after + ": unfinished()", x.unfinished(), 0);
        CHECK.due(after + ": distinct()", x.distinct(), 0);
        CHECK.due(after + ": hottest()", x.hottest(), NONE);
        CHECK.due(after + ": visits(0)", x.visits(0), 0);
        CHECK.due(after + ": arc(0, 1)", x.arc(0, 1), 0);
    }

    private static void changedSuccessorForgetsCounts() {
        int[][] leads = {
            {0, 1, 3}, {0, 3, 2}, {0, 2, 1}, {0, 1, -1}, {0, 2, -1}, {0, -1, -1},
            {1, 0, 2}, {1, 2, -1}, {1, -1, -1}, {8, 0, -1}, {8, 0, 8}, {5, 6, -1}};
        for (int[] l : leads) {
            PathProfiler x = counted();
            x.lead(l[0], l[1], l[2]);
            forgotten("lead(" + l[0] + ", " + l[1] + ", " + l[2] + ")", x);
            x.lead(0, 1, 2);
            x.lead(1, 0, -1);
            forgotten("lead and back", x);
        }
    }

    private static void sameSuccessorsKeepCounts() {
        PathProfiler x = counted();
        CHECK.due("the same lead(0, 1, 2)", x.lead(0, 1, 2), 2);
        CHECK.due("the same lead(1, 0, -1)", x.lead(1, 0, -1), 1);
        CHECK.due("the same lead(7, -1, -1)", x.lead(7, -1, -1), 0);
        CHECK.due("same: gone()", x.gone(), 2);
        CHECK.due("same: unfinished()", x.unfinished(), 1);
    }

    private static void objectsAreApart() {
        PathProfiler x = counted();
        PathProfiler y = new PathProfiler();
        CHECK.due("second object: gone()", y.gone(), 0);
        CHECK.due("second object: successors(0)", y.successors(0), 0);
        y.lead(0, 5, -1);
        CHECK.due("first object: gone()", x.gone(), 2);
        CHECK.due("first object: successors(0)", x.successors(0), 2);
    }
}
