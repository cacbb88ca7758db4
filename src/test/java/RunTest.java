/** Promises 4, 14 and 16: run, unfinished, and the limits of a run. */
public final class RunTest {
    private static final Check CHECK = new Check();
    private static final int BAD_ARG = PathProfiler.BAD_ARG;

    public static void main(String[] args) {
        runRefuses();
        choicesAreTakenFromTheLowestDigit();
        oneSuccessorTakesNoChoice();
        onlyManyChoicesCount();
        allTwentyFourChoices();
        noChoiceLeft();
        choicesLeftOver();
        fortiethArcToAnExit();
        fortiethArcBackToAnExit();
        fortiethArcToAnotherBlock();
        fortyFirstArcIsNotGone();
        endlessLoop();
        lastPieceOfAnUnfinishedRun();
        CHECK.end();
    }

    private static void counts(String of, PathProfiler x, int gone, int unfinished) {
        CHECK.due(of + ": gone()", x.gone(), gone);
        CHECK.due(of + ": unfinished()", x.unfinished(), unfinished);
    }

    /** 0 to 1; 1 back to 0 for a choice of 0, on to the exit 2 for 1. */
    private static PathProfiler loop() {
        PathProfiler x = new PathProfiler();
        x.lead(0, 1, -1);
        x.lead(1, 0, 2);
        return x;
    }

    private static void runRefuses() {
        PathProfiler x = loop();
        int[] wide = {Integer.MIN_VALUE, -2, -1, 25, 26, 32, 33, Integer.MAX_VALUE};
        for (int w : wide) {
            CHECK.due("run(1, " + w + ")", x.run(1, w), BAD_ARG);
        }
        counts("refused runs", x, 0, 0);
        for (int many = 1; many <= 24; many++) {
            CHECK.due("run(1, " + many + ")", x.run(1, many), 2);
        }
        counts("runs", x, 24, 0);
    }

    private static void choicesAreTakenFromTheLowestDigit() {
        PathProfiler x = new PathProfiler();
        x.lead(0, 1, 2);
        x.lead(1, 3, 4);
        x.lead(2, 5, 6);
        int[][] due = {{0, 124}, {1, 136}, {2, 125}, {3, 137}};
        for (int[] d : due) {
            CHECK.due("run(" + d[0] + ", 2)", x.run(d[0], 2), 2);
            CHECK.due("times(" + d[1] + ")", x.times(d[1]), 1);
        }
        counts("tree", x, 4, 0);
        CHECK.due("run(-1, 2)", x.run(-1, 2), 2);
        CHECK.due("times(137) after run(-1, 2)", x.times(137), 2);
        CHECK.due("run(-2, 2)", x.run(-2, 2), 2);
        CHECK.due("times(125) after run(-2, 2)", x.times(125), 2);
        CHECK.due("run(MIN_VALUE, 24)", x.run(Integer.MIN_VALUE, 24), 2);
        CHECK.due("times(124) after run(MIN_VALUE, 24)", x.times(124), 2);
    }

    private static void oneSuccessorTakesNoChoice() {
        PathProfiler x = new PathProfiler();
        x.lead(0, 1, -1);
        x.lead(1, 2, -1);
        x.lead(2, 3, 4);
        CHECK.due("run(1, 1) past single successors", x.run(1, 1), 3);
        CHECK.due("times(1235)", x.times(1235), 1);
    }

    private static void onlyManyChoicesCount() {
        PathProfiler x = loop();
        CHECK.due("run(-1, 0)", x.run(-1, 0), 1);
        counts("run(-1, 0)", x, 0, 1);
        CHECK.due("run(4, 2)", x.run(4, 2), 5);
        counts("run(4, 2)", x, 2, 2);
        CHECK.due("run(4, 3)", x.run(4, 3), 6);
        counts("run(4, 3)", x, 5, 2);
    }

    private static void allTwentyFourChoices() {
        PathProfiler x = new PathProfiler();
        x.lead(0, 0, 1);
        CHECK.due("run(1 << 23, 24)", x.run(1 << 23, 24), 24);
        counts("run(1 << 23, 24)", x, 24, 0);
        CHECK.due("times(1)", x.times(1), 23);
        CHECK.due("times(12)", x.times(12), 1);
        CHECK.due("run(1 << 24, 24)", x.run(1 << 24, 24), 24);
        counts("run(1 << 24, 24)", x, 48, 1);
    }

    private static void noChoiceLeft() {
        PathProfiler x = loop();
        for (int many = 0; many <= 10; many++) {
            CHECK.due("run(0, " + many + ")", x.run(0, many), 2 * many + 1);
        }
        counts("no choice left", x, 55, 11);
    }

    private static void choicesLeftOver() {
        PathProfiler x = loop();
        CHECK.due("run(-1, 24)", x.run(-1, 24), 2);
        counts("choices left over", x, 1, 0);
    }

    private static void fortiethArcToAnExit() {
        PathProfiler x = loop();
        CHECK.due("run(1 << 19, 20)", x.run(1 << 19, 20), 40);
        counts("exit at 40", x, 20, 0);
        CHECK.due("times(12)", x.times(12), 19);
        CHECK.due("times(123)", x.times(123), 1);
    }

    private static void fortiethArcBackToAnExit() {
        PathProfiler x = new PathProfiler();
        x.lead(0, 2, -1);
        x.lead(2, 0, 1);
        CHECK.due("run(1 << 19, 20)", x.run(1 << 19, 20), 40);
        counts("back to an exit at 40", x, 21, 0);
        CHECK.due("times(13)", x.times(13), 20);
        CHECK.due("times(2)", x.times(2), 1);
    }

    private static void fortiethArcToAnotherBlock() {
        PathProfiler x = loop();
        CHECK.due("run(1 << 20, 21)", x.run(1 << 20, 21), 40);
        counts("another block at 40", x, 20, 1);
        CHECK.due("times(12)", x.times(12), 20);
        CHECK.due("times(123)", x.times(123), 0);
        CHECK.due("visits(0)", x.visits(0), 20);
    }

    private static void fortyFirstArcIsNotGone() {
        PathProfiler x = loop();
        x.lead(2, 3, -1);
        CHECK.due("run(1 << 19, 20)", x.run(1 << 19, 20), 40);
        counts("exit at 41", x, 19, 1);
        CHECK.due("run(1 << 18, 19)", x.run(1 << 18, 19), 39);
        counts("exit at 39", x, 38, 1);
        CHECK.due("times(1234)", x.times(1234), 1);
    }

    private static void endlessLoop() {
        PathProfiler x = new PathProfiler();
        x.lead(0, 1, -1);
        x.lead(1, 2, -1);
        x.lead(2, 1, -1);
        CHECK.due("run(0, 0)", x.run(0, 0), 40);
        CHECK.due("times(123)", x.times(123), 1);
        CHECK.due("times(23)", x.times(23), 18);
        counts("endless", x, 19, 1);
        CHECK.due("run(0, 24)", x.run(0, 24), 40);
        counts("endless twice", x, 38, 2);
    }

    private static void lastPieceOfAnUnfinishedRun() {
        PathProfiler x = new PathProfiler();
        x.lead(0, 1, -1);
        x.lead(1, 2, 0);
        CHECK.due("run(1, 1)", x.run(1, 1), 3);
        counts("ends at an end, not at an exit", x, 1, 1);
        CHECK.due("times(12)", x.times(12), 1);
        CHECK.due("run(0, 0)", x.run(0, 0), 1);
        counts("ends at an end at once", x, 1, 2);
    }
}
