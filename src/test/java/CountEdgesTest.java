import java.util.List;

/** How long counts are kept, in 'Terms': each edge by a test of its own. */
public final class CountEdgesTest {
    private static final Check CHECK = new Check();
    private static final int BAD_ARG = PathProfiler.BAD_ARG;
    private static final int NONE = PathProfiler.NONE;
    private static final String CHANGED =
        "until a successor is changed (to another one); then all counts are 0 again";

    public static void main(String[] args) {
        countedOn();
        firstChanged();
        secondChanged();
        swapped();
        added();
        takenAway();
        unreachedBlock();
        changedAndBack();
        sameOnesKept();
        refusedLeadKeeps();
        otherCallsKeep();
        countedAnew();
        CHECK.end();
    }

    /** The path 0 1 gone three times, 0 3 twice, and two unfinished runs. */
    private static PathProfiler counted() {
        PathProfiler x = Shape.of(0, 1, 3, 1, 0, 2);
        x.run(4, 3);
        x.run(4, 3);
        x.run(0, 2);
        x.run(0, 0);
        return x;
    }

    private static void kept(String after, PathProfiler x) {
        CHECK.due(after + ": times(12)", x.times(12), 3);
        CHECK.due(after + ": times(14)", x.times(14), 2);
        CHECK.due(after + ": distinct()", x.distinct(), 2);
        CHECK.due(after + ": gone()", x.gone(), 5);
        CHECK.due(after + ": hottest()", x.hottest(), 12);
        CHECK.due(after + ": visits(0)", x.visits(0), 5);
        CHECK.due(after + ": arc(0, 1)", x.arc(0, 1), 3);
        CHECK.due(after + ": unfinished()", x.unfinished(), 2);
    }

    private static void forgotten(String after, PathProfiler x) {
        for (int code : Shape.paths(x)) {
            CHECK.due(after + ": times(" + code + ")", x.times(code), 0);
        }
        CHECK.due(after + ": distinct()", x.distinct(), 0);
        CHECK.due(after + ": gone()", x.gone(), 0);
        CHECK.due(after + ": hottest()", x.hottest(), NONE);
        for (int b = 0; b <= 8; b++) {
            CHECK.due(after + ": visits(" + b + ")", x.visits(b), 0);
            for (int c = 0; c <= 8; c++) {
                CHECK.due(after + ": arc(" + b + ", " + c + ")", x.arc(b, c), 0);
            }
        }
        CHECK.due(after + ": unfinished()", x.unfinished(), 0);
    }

    private static void forgottenAfter(int b, int c, int d) {
        PathProfiler x = counted();
        x.lead(b, c, d);
        forgotten("lead(" + b + ", " + c + ", " + d + ")", x);
    }

    private static void countedOn() {
        CHECK.sentence("How often paths were gone, and the number of unfinished runs, are counted");
        kept("no lead", counted());
    }

    private static void firstChanged() {
        CHECK.sentence(CHANGED + ": the first");
        forgottenAfter(0, 2, 3);
        forgottenAfter(0, 0, 3);
        forgottenAfter(1, 1, 2);
    }

    private static void secondChanged() {
        CHECK.sentence(CHANGED + ": the second");
        forgottenAfter(0, 1, 2);
        forgottenAfter(0, 1, 8);
        forgottenAfter(1, 0, 3);
    }

    private static void swapped() {
        CHECK.sentence(CHANGED + ": both, in turn");
        forgottenAfter(0, 3, 1);
        forgottenAfter(1, 2, 0);
    }

    private static void added() {
        CHECK.sentence(CHANGED + ": one more");
        forgottenAfter(2, 3, -1);
        forgottenAfter(3, 3, 4);
        PathProfiler x = Shape.of(0, 1, -1);
        x.run(0, 0);
        x.lead(0, 1, 2);
        forgotten("lead(0, 1, 2) after lead(0, 1, -1)", x);
    }

    private static void takenAway() {
        CHECK.sentence(CHANGED + ": one less");
        forgottenAfter(0, 1, -1);
        forgottenAfter(0, 3, -1);
        forgottenAfter(0, -1, -1);
        forgottenAfter(1, 0, -1);
        forgottenAfter(1, -1, -1);
    }

    private static void unreachedBlock() {
        CHECK.sentence(CHANGED + ": of any block");
        for (int b = 2; b <= 8; b++) {
            forgottenAfter(b, 8, -1);
            forgottenAfter(b, 0, -1);
        }
    }

    private static void changedAndBack() {
        CHECK.sentence("then all counts are 0 again: and stay so if the successor is changed back");
        PathProfiler x = counted();
        x.lead(0, 1, 2);
        x.lead(0, 1, 3);
        forgotten("there and back", x);
        x = counted();
        x.lead(8, 8, -1);
        x.lead(8, -1, -1);
        forgotten("there and back at an unreached block", x);
    }

    private static void sameOnesKept() {
        CHECK.sentence("until a successor is changed (to another one): the same ones are no "
            + "change");
        PathProfiler x = counted();
        CHECK.due("lead(0, 1, 3)", x.lead(0, 1, 3), 2);
        CHECK.due("lead(1, 0, 2)", x.lead(1, 0, 2), 2);
        for (int b = 2; b <= 8; b++) {
            CHECK.due("lead(" + b + ", -1, -1)", x.lead(b, -1, -1), 0);
        }
        kept("the same successors", x);
        x = Shape.of(0, 4, -1);
        x.run(0, 0);
        CHECK.due("lead(0, 4, -1)", x.lead(0, 4, -1), 1);
        CHECK.due("the same one successor: times(15)", x.times(15), 1);
    }

    private static void refusedLeadKeeps() {
        CHECK.sentence("A refused call .. changes nothing: counts, at a refused lead");
        int[][] refused = {
            {-1, 1, 2}, {9, 1, 2}, {0, -2, -1}, {0, 9, -1}, {0, 1, -2}, {0, 1, 9}, {0, -1, 1},
            {0, -1, 3}, {0, 2, 2}, {1, 0, 0}, {8, 8, 8}};
        PathProfiler x = counted();
        for (int[] l : refused) {
            CHECK.due("lead(" + l[0] + ", " + l[1] + ", " + l[2] + ")", x.lead(l[0], l[1], l[2]), BAD_ARG);
            kept("lead(" + l[0] + ", " + l[1] + ", " + l[2] + ")", x);
        }
    }

    private static void otherCallsKeep() {
        CHECK.sentence("counted until a successor is changed: no question changes a count");
        PathProfiler x = counted();
        List<Integer> first = Shape.answers(x);
        List<Integer> second = Shape.answers(x);
        CHECK.holds("the same answers twice: " + first + " and " + second, first.equals(second));
        kept("asked", x);
    }

    private static void countedAnew() {
        CHECK.sentence("then all counts are 0 again: and go on from there");
        PathProfiler x = counted();
        x.lead(5, 6, -1);
        x.run(0, 0);
        x.run(1, 1);
        CHECK.due("unfinished()", x.unfinished(), 1);
        CHECK.due("gone()", x.gone(), 1);
        CHECK.due("times(14)", x.times(14), 1);
        CHECK.due("hottest()", x.hottest(), 14);
    }
}
