/** What a run is and what it counts ('Terms', promises 4, 14, 16): each edge by a test of its own. */
public final class RunEdgesTest {
    private static final Check CHECK = new Check();
    private static final int BAD_ARG = PathProfiler.BAD_ARG;
    private static final int NONE = PathProfiler.NONE;

    public static void main(String[] args) {
        beginsAtBlockZero();
        aListOfItsOwn();
        oneSuccessorTakesNoChoice();
        zeroIsTheFirst();
        endsAtAnExit();
        endsWithNoChoiceLeft();
        endsAfterFortyArcs();
        cutAtBackArcs();
        eachPathOnceMore();
        lastPieceAtAnExit();
        lastPieceElsewhere();
        lowestDigitFirst();
        manyIsRefused();
        leastAndMostMany();
        howManyArcs();
        numberOfUnfinishedRuns();
        fortiethArcToAnExit();
        fortiethArcToAnotherBlock();
        CHECK.end();
    }

    private static void counts(String of, PathProfiler x, int gone, int unfinished) {
        CHECK.due(of + ": gone()", x.gone(), gone);
        CHECK.due(of + ": unfinished()", x.unfinished(), unfinished);
    }

    private static void beginsAtBlockZero() {
        CHECK.sentence("a run begins at block 0");
        PathProfiler x = Shape.of(1, 2, -1, 8, 7, -1);
        CHECK.due("run(0, 0), 0 an exit and others not", x.run(0, 0), 0);
        CHECK.due("times(1)", x.times(1), 1);
        x = Shape.of(0, 5, -1, 5, 3, -1);
        for (int i = 1; i <= 3; i++) {
            CHECK.due("run(0, 0), time " + i, x.run(0, 0), 2);
            CHECK.due("visits(0), time " + i, x.visits(0), i);
            CHECK.due("times(16), time " + i, x.times(16), i);
        }
    }

    private static void aListOfItsOwn() {
        CHECK.sentence("A RUN has a list of CHOICES");
        PathProfiler x = Shape.of(0, 1, 2);
        CHECK.due("run(2, 2), one choice left over", x.run(2, 2), 1);
        CHECK.due("run(0, 0), nothing left of the run before", x.run(0, 0), 0);
        CHECK.due("run(0, 1), begins with its own first choice", x.run(0, 1), 1);
        CHECK.due("times(12)", x.times(12), 2);
        counts("three runs", x, 2, 1);
    }

    private static void oneSuccessorTakesNoChoice() {
        CHECK.sentence("at a block with one successor to that");
        PathProfiler x = Shape.chain();
        CHECK.due("run(0, 0) along the chain", x.run(0, 0), 8);
        CHECK.due("run(-1, 24) along the chain", x.run(-1, 24), 8);
        counts("chain", x, 2, 0);
        x.lead(7, 8, 5);
        CHECK.due("run(0, 1), the only choice kept for block 7", x.run(0, 1), 8);
        CHECK.due("times(123456789)", x.times(123456789), 1);
    }

    private static void zeroIsTheFirst() {
        CHECK.sentence("at a block with two, to the first one if the next choice is 0, else to the "
            + "second one");
        for (int c = 1; c <= 8; c++) {
            for (int d = 1; d <= 8; d++) {
                if (c != d) {
                    PathProfiler x = Shape.of(0, c, d);
                    x.run(0, 1);
                    CHECK.due("choice 0 of " + c + " and " + d, x.hottest(), 11 + c);
                    x.run(1, 1);
                    CHECK.due("choice 1 of " + c + " and " + d, x.times(11 + d), 1);
                    CHECK.due("choice 0 of " + c + " and " + d, x.times(11 + c), 1);
                }
            }
        }
        PathProfiler x = Shape.of(0, 1, 2, 2, 3, 4, 4, 5, 6);
        CHECK.due("run(3, 3): 1, 1, 0", x.run(3, 3), 3);
        CHECK.due("times(1356)", x.times(1356), 1);
    }

    private static void endsAtAnExit() {
        CHECK.sentence("it ends at an exit");
        PathProfiler x = new PathProfiler();
        CHECK.due("run(0, 0) at once", x.run(0, 0), 0);
        CHECK.due("run(-1, 24) at once", x.run(-1, 24), 0);
        counts("at once", x, 2, 0);
        x = Shape.of(0, 1, 8);
        CHECK.due("run(-1, 24) with choices left", x.run(-1, 24), 1);
        CHECK.due("run(-1, 1) with none left", x.run(-1, 1), 1);
        counts("after one arc", x, 2, 0);
        x = Shape.of(0, 2, -1, 2, 1, -1);
        CHECK.due("run(0, 0) at an exit behind a back arc", x.run(0, 0), 2);
        counts("behind a back arc", x, 2, 0);
    }

    private static void endsWithNoChoiceLeft() {
        CHECK.sentence("at a block with two successors if no choice is left");
        PathProfiler x = Shape.of(0, 1, 2, 1, 3, 4, 3, 5, -1, 5, 6, 7);
        int[] arcs = {0, 1, 3, 4};
        for (int many = 0; many <= 3; many++) {
            CHECK.due("run(0, " + many + ")", x.run(0, many), arcs[many]);
        }
        counts("the last one alone came to an exit", x, 1, 3);
        CHECK.due("run(-1, 0), no digit of choices is one", x.run(-1, 0), 0);
        counts("no choice at all", x, 1, 4);
    }

    private static void endsAfterFortyArcs() {
        CHECK.sentence("and after 40 arcs");
        PathProfiler x = Shape.of(0, 0, -1);
        CHECK.due("run(0, 0) on one block", x.run(0, 0), 40);
        counts("one block", x, 40, 1);
        x = Shape.of(0, 1, -1, 1, 2, -1, 2, 0, -1);
        CHECK.due("run(0, 0) on three blocks", x.run(0, 0), 40);
        counts("13 rounds of three and one arc", x, 13, 1);
        CHECK.due("the last arc is in no path, arc(0, 1)", x.arc(0, 1), 13);
        x = Shape.rounds();
        CHECK.due("run(0, 24) with choices left", x.run(0, 24), 40);
        counts("ten rounds of four", x, 10, 1);
        CHECK.due("run(1 << 8, 24) before that", x.run(1 << 8, 24), 36);
        counts("nine rounds more", x, 19, 1);
    }

    private static void cutAtBackArcs() {
        CHECK.sentence("The list of blocks of the run, cut wherever it goes over a back arc, falls "
            + "into paths and a last piece");
        PathProfiler x = Shape.of(0, 0, 1);
        CHECK.due("run(1, 1): no cut", x.run(1, 1), 1);
        counts("no cut", x, 1, 0);
        CHECK.due("run(2, 2): cut at the first arc", x.run(2, 2), 2);
        counts("cut at the first arc", x, 3, 0);
        x = Shape.of(0, 3, -1, 3, 2, -1, 2, 1, -1);
        CHECK.due("run(0, 0): cut at each but the first arc", x.run(0, 0), 3);
        counts("0 3, 2, 1", x, 3, 0);
        CHECK.due("times(14)", x.times(14), 1);
        CHECK.due("times(3)", x.times(3), 1);
        CHECK.due("times(2)", x.times(2), 1);
        x = Shape.of(0, 8, -1, 8, 8, 7);
        CHECK.due("run(4, 3): cut between 8 and 8", x.run(4, 3), 4);
        counts("0 8, 8, 8, 7", x, 4, 0);
        CHECK.due("times(9)", x.times(9), 2);
    }

    private static void eachPathOnceMore() {
        CHECK.sentence("Each of the paths .. is GONE once more");
        PathProfiler x = Shape.rounds();
        CHECK.due("run(4, 3): one path twice, then another", x.run(4, 3), 12);
        CHECK.due("times(1234)", x.times(1234), 2);
        CHECK.due("times(12345)", x.times(12345), 1);
        x.run(4, 3);
        CHECK.due("once more, times(1234)", x.times(1234), 4);
        CHECK.due("once more, times(12345)", x.times(12345), 2);
        CHECK.due("once more, distinct()", x.distinct(), 2);
    }

    private static void lastPieceAtAnExit() {
        CHECK.sentence("and the last piece too if the run ended at an exit");
        PathProfiler x = Shape.of(0, 1, -1, 1, 0, 2);
        x.run(1, 1);
        CHECK.due("the only piece, times(123)", x.times(123), 1);
        x = Shape.of(0, 8, -1, 8, 4, -1);
        x.run(0, 0);
        CHECK.due("a last piece of one block, times(5)", x.times(5), 1);
        CHECK.due("visits(4)", x.visits(4), 1);
        counts("both pieces", x, 2, 0);
    }

    private static void lastPieceElsewhere() {
        CHECK.sentence("if the run ended otherwise, the run is UNFINISHED and its last piece does "
            + "not count");
        PathProfiler x = Shape.of(0, 1, -1, 1, 0, 2);
        CHECK.due("run(0, 0), its only piece being like a path", x.run(0, 0), 1);
        counts("no choice left", x, 0, 1);
        CHECK.due("times(12)", x.times(12), 0);
        CHECK.due("hottest()", x.hottest(), NONE);
        CHECK.due("distinct()", x.distinct(), 0);
        CHECK.due("visits(0)", x.visits(0), 0);
        CHECK.due("arc(0, 1)", x.arc(0, 1), 0);
        CHECK.due("run(0, 1), the piece before counts", x.run(0, 1), 3);
        counts("one path, then no choice left", x, 1, 2);
        CHECK.due("times(12)", x.times(12), 1);
        x = Shape.of(0, 2, -1, 2, 1, -1, 1, 2, -1);
        CHECK.due("run(0, 0), ended by 40 arcs", x.run(0, 0), 40);
        CHECK.due("times(13)", x.times(13), 1);
        CHECK.due("times(23)", x.times(23), 19);
        CHECK.due("visits(1), not of the last piece", x.visits(1), 19);
        counts("40 arcs", x, 20, 1);
    }

    private static void lowestDigitFirst() {
        CHECK.sentence("A run with many choices, the first one the lowest binary digit of choices, "
            + "and so on");
        PathProfiler x = Shape.of(0, 0, 1);
        for (int i = 0; i <= 23; i++) {
            CHECK.due("run(1 << " + i + ", 24)", x.run(1 << i, 24), i + 1);
        }
        counts("each digit", x, 300, 0);
        for (int i = 24; i <= 31; i++) {
            CHECK.due("run(1 << " + i + ", 24), no digit of the 24", x.run(1 << i, 24), 24);
        }
        counts("higher digits", x, 300 + 8 * 24, 8);
        x = Shape.of(0, 1, 0);
        for (int i = 0; i <= 23; i++) {
            CHECK.due("run(~(1 << " + i + "), 24)", x.run(~(1 << i), 24), i + 1);
        }
        for (int many = 0; many <= 24; many++) {
            CHECK.due("run(-1, " + many + ")", x.run(-1, many), many);
        }
        CHECK.due("run(MAX_VALUE, 24)", x.run(Integer.MAX_VALUE, 24), 24);
        CHECK.due("run(MIN_VALUE, 24)", x.run(Integer.MIN_VALUE, 24), 1);
    }

    private static void manyIsRefused() {
        CHECK.sentence("BAD_ARG if many is not 0 to 24");
        for (int many : Shape.WIDE) {
            boolean refused = many < 0 || many > 24;
            PathProfiler x = new PathProfiler();
            CHECK.due("run(0, " + many + ") at an exit", x.run(0, many), refused ? BAD_ARG : 0);
            counts("run(0, " + many + ") at an exit", x, refused ? 0 : 1, 0);
            x = Shape.of(0, 0, -1);
            CHECK.due("run(0, " + many + ") on a loop", x.run(0, many), refused ? BAD_ARG : 40);
            counts("run(0, " + many + ") on a loop", x, refused ? 0 : 40, refused ? 0 : 1);
        }
    }

    private static void leastAndMostMany() {
        CHECK.sentence("many .. 0 to 24");
        PathProfiler x = Shape.of(0, 1, 0);
        CHECK.due("run(0, 0)", x.run(0, 0), 0);
        CHECK.due("run(0, 1)", x.run(0, 1), 1);
        CHECK.due("run(-1, 23)", x.run(-1, 23), 23);
        CHECK.due("run(-1, 24)", x.run(-1, 24), 24);
        CHECK.due("run(-1, 25)", x.run(-1, 25), BAD_ARG);
        CHECK.due("run(-1, -1)", x.run(-1, -1), BAD_ARG);
        counts("least and most", x, 1 + 23 + 24, 3);
    }

    private static void howManyArcs() {
        CHECK.sentence("Otherwise how many arcs it went");
        CHECK.due("none, at an exit", new PathProfiler().run(0, 0), 0);
        CHECK.due("none, without a choice", Shape.of(0, 1, 2).run(0, 0), 0);
        CHECK.due("one forward", Shape.of(0, 8, -1).run(0, 0), 1);
        CHECK.due("back arcs too", Shape.of(0, 8, -1, 8, 1, -1).run(0, 0), 2);
        CHECK.due("those of the last piece too", Shape.rounds().run(0, 1), 7);
        for (int rounds = 1; rounds <= 10; rounds++) {
            int arcs = Shape.rounds().run(1 << (rounds - 1), rounds);
            CHECK.due(rounds + " rounds", arcs, 4 * rounds);
        }
        CHECK.due("the most", Shape.rounds().run(1 << 10, 11), 40);
    }

    private static void numberOfUnfinishedRuns() {
        CHECK.sentence("unfinished: The number of unfinished runs");
        PathProfiler x = Shape.of(0, 0, 1);
        CHECK.due("before any run", x.unfinished(), 0);
        x.run(1, 1);
        CHECK.due("a finished one", x.unfinished(), 0);
        x.run(0, 25);
        CHECK.due("a refused one", x.unfinished(), 0);
        x.run(0, 0);
        CHECK.due("one without a choice", x.unfinished(), 1);
        x.run(0, 24);
        CHECK.due("one more, many paths in it", x.unfinished(), 2);
        x.run(2, 2);
        CHECK.due("a finished one behind them", x.unfinished(), 2);
    }

    private static void fortiethArcToAnExit() {
        CHECK.sentence("A run whose 40th arc leads to an exit has ended at that exit (its last "
            + "piece counts)");
        PathProfiler x = Shape.rounds();
        CHECK.due("run(1 << 9, 10), a forward arc", x.run(1 << 9, 10), 40);
        CHECK.due("times(12345)", x.times(12345), 1);
        counts("a forward arc", x, 10, 0);
        CHECK.due("run(-1 << 9, 24), choices left over", x.run(-1 << 9, 24), 40);
        counts("choices left over", x, 20, 0);
        x = Shape.of(0, 2, -1, 2, 3, -1, 3, 4, -1, 4, 0, 1);
        CHECK.due("run(1 << 9, 10), a back arc", x.run(1 << 9, 10), 40);
        CHECK.due("times(1345)", x.times(1345), 10);
        CHECK.due("times(2)", x.times(2), 1);
        counts("a back arc", x, 11, 0);
    }

    private static void fortiethArcToAnotherBlock() {
        CHECK.sentence("one that has gone 40 arcs to another block is unfinished");
        PathProfiler x = Shape.rounds();
        x.lead(4, 5, -1);
        CHECK.due("run(1 << 9, 10), to a block one arc before an exit", x.run(1 << 9, 10), 40);
        CHECK.due("times(123456)", x.times(123456), 0);
        counts("one arc before an exit", x, 9, 1);
        CHECK.due("run(0, 10), over a back arc", x.run(0, 10), 40);
        counts("over a back arc", x, 9 + 10, 2);
        x.lead(4, 5, 4);
        CHECK.due("run(1 << 9, 11), to an end with a choice left", x.run(1 << 9, 11), 40);
        counts("a choice left", x, 9, 1);
        CHECK.due("run(1 << 9, 10), to an end with none left", x.run(1 << 9, 10), 40);
        counts("none left: unfinished but once", x, 18, 2);
        CHECK.due("times(12345)", x.times(12345), 0);
    }
}
