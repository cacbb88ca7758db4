import java.util.List;

/** Promises 1 to 3, 5 to 13 and 15: each sentence that names an edge, by a test of its own. */
public final class PromiseEdgesTest {
    private static final Check CHECK = new Check();
    private static final int BAD_ARG = PathProfiler.BAD_ARG;
    private static final int NONE = PathProfiler.NONE;

    public static void main(String[] args) {
        allBlocksAreExits();
        leadGetsNoneOneOrTwo();
        leadOfNoBlock();
        leadToNoBlock();
        leadToASecondAlone();
        leadTwiceToTheSame();
        leadTellsWhatItHad();
        successorsOfNoBlock();
        possibleLeastAndMost();
        timesOfAPath();
        timesOfNoPath();
        distinctPaths();
        goneAllTogether();
        hottestMostOften();
        hottestOfSeveral();
        hottestOfNone();
        pathInOrder();
        pathThatIsNone();
        throughNoneToAll();
        throughNoBlock();
        visitsAllTogether();
        visitsOfNoBlock();
        arcInPathsGone();
        arcThatIsNoForwardArc();
        longestLeastAndMost();
        CHECK.end();
    }

    private static void allBlocksAreExits() {
        CHECK.sentence("PathProfiler(): All blocks are exits");
        for (int b = 0; b <= 8; b++) {
            PathProfiler x = new PathProfiler();
            CHECK.due("successors(" + b + ")", x.successors(b), 0);
            CHECK.due("lead(" + b + ", 0, -1)", x.lead(b, 0, -1), 0);
            x = Shape.of(0, b, -1);
            CHECK.due("run(0, 0) from 0 to " + b, x.run(0, 0), b == 0 ? 40 : 1);
        }
        PathProfiler x = new PathProfiler();
        CHECK.due("run(0, 0)", x.run(0, 0), 0);
        CHECK.due("times(1)", x.times(1), 1);
        CHECK.due("unfinished()", x.unfinished(), 0);
    }

    private static void leadGetsNoneOneOrTwo() {
        CHECK.sentence("Block b gets no successor (c = -1, d = -1), the one successor c (d = -1) "
            + "or the two successors c and d");
        PathProfiler x = new PathProfiler();
        x.lead(0, 8, 4);
        CHECK.due("two: successors(0)", x.successors(0), 2);
        x.run(0, 1);
        x.run(1, 1);
        CHECK.due("two: times(19)", x.times(19), 1);
        CHECK.due("two: times(15)", x.times(15), 1);
        x.lead(0, 4, -1);
        CHECK.due("one: successors(0)", x.successors(0), 1);
        CHECK.due("one: run(1, 1)", x.run(1, 1), 1);
        CHECK.due("one: times(15)", x.times(15), 1);
        CHECK.due("one: times(19)", x.times(19), NONE);
        x.lead(0, -1, -1);
        CHECK.due("none: successors(0)", x.successors(0), 0);
        CHECK.due("none: run(1, 1)", x.run(1, 1), 0);
        CHECK.due("none: times(15)", x.times(15), NONE);
        for (int b = 1; b <= 8; b++) {
            CHECK.due("other blocks: successors(" + b + ")", x.successors(b), 0);
        }
    }

    private static void leadOfNoBlock() {
        CHECK.sentence("lead: BAD_ARG if b is not 0 to 8");
        for (int b : Shape.WIDE) {
            PathProfiler x = new PathProfiler();
            int due = b < 0 || b > 8 ? BAD_ARG : 0;
            CHECK.due("lead(" + b + ", -1, -1)", x.lead(b, -1, -1), due);
            CHECK.due("lead(" + b + ", 0, -1)", x.lead(b, 0, -1), due);
            x = new PathProfiler();
            CHECK.due("lead(" + b + ", 8, 0)", x.lead(b, 8, 0), due);
        }
    }

    private static void leadToNoBlock() {
        CHECK.sentence("lead: BAD_ARG if .. c or d not -1 to 8");
        for (int w : Shape.WIDE) {
            boolean out = w < -1 || w > 8;
            PathProfiler x = new PathProfiler();
            CHECK.due("lead(4, " + w + ", -1)", x.lead(4, w, -1), out ? BAD_ARG : 0);
            x = new PathProfiler();
            CHECK.due("lead(4, 5, " + w + ")", x.lead(4, 5, w), out || w == 5 ? BAD_ARG : 0);
            x = new PathProfiler();
            if (out) {
                CHECK.due("lead(4, " + w + ", 5)", x.lead(4, w, 5), BAD_ARG);
                CHECK.due("lead(4, -1, " + w + ")", x.lead(4, -1, w), BAD_ARG);
                CHECK.due("lead(4, " + w + ", " + w + ")", x.lead(4, w, w), BAD_ARG);
            }
            CHECK.due("successors(4)", x.successors(4), 0);
        }
    }

    private static void leadToASecondAlone() {
        CHECK.sentence("lead: BAD_ARG if .. c is -1 and d is not");
        PathProfiler x = Shape.of(3, 4, -1);
        for (int d = 0; d <= 8; d++) {
            CHECK.due("lead(3, -1, " + d + ")", x.lead(3, -1, d), BAD_ARG);
        }
        CHECK.due("successors(3)", x.successors(3), 1);
        CHECK.due("lead(3, -1, -1), d being -1 too", x.lead(3, -1, -1), 1);
        CHECK.due("successors(3)", x.successors(3), 0);
    }

    private static void leadTwiceToTheSame() {
        CHECK.sentence("lead: BAD_ARG if .. c and d are the same block");
        for (int b = 0; b <= 8; b++) {
            PathProfiler x = Shape.of(b, 4, 5);
            for (int c = 0; c <= 8; c++) {
                CHECK.due("lead(" + b + ", " + c + ", " + c + ")", x.lead(b, c, c), BAD_ARG);
            }
            CHECK.due("successors(" + b + ")", x.successors(b), 2);
            CHECK.due("lead(" + b + ", -1, -1), -1 being no block", x.lead(b, -1, -1), 2);
        }
    }

    private static void leadTellsWhatItHad() {
        CHECK.sentence("lead: Otherwise the number of successors it had");
        int[][] to = {{-1, -1}, {6, -1}, {6, 2}};
        for (int b = 0; b <= 8; b++) {
            for (int had = 0; had <= 2; had++) {
                for (int gets = 0; gets <= 2; gets++) {
                    PathProfiler x = Shape.of(b, to[had][0], to[had][1]);
                    String change = "block " + b + " from " + had + " to " + gets;
                    CHECK.due(change, x.lead(b, to[gets][0], to[gets][1]), had);
                    CHECK.due("successors, " + change, x.successors(b), gets);
                }
            }
        }
    }

    private static void successorsOfNoBlock() {
        CHECK.sentence("The number of successors of block b; BAD_ARG if b is not 0 to 8");
        PathProfiler x = Shape.of(0, 1, -1, 8, 1, 2);
        for (int b : Shape.WIDE) {
            int due = b < 0 || b > 8 ? BAD_ARG : b == 0 ? 1 : b == 8 ? 2 : 0;
            CHECK.due("successors(" + b + ")", x.successors(b), due);
        }
    }

    private static void possibleLeastAndMost() {
        CHECK.sentence("The number of paths that there are");
        CHECK.due("fewest, all exits", new PathProfiler().possible(), 1);
        CHECK.due("fewest, no exit", Shape.of(0, 0, -1).possible(), 1);
        CHECK.due("fewest, all blocks in it", Shape.chain().possible(), 1);
        CHECK.due("many", Shape.crowded().possible(), 131);
        PathProfiler x = Shape.of(0, 1, 2);
        CHECK.due("gone or not", x.possible(), 2);
        x.run(0, 1);
        x.run(0, 1);
        CHECK.due("gone twice", x.possible(), 2);
    }

    private static void timesOfAPath() {
        CHECK.sentence("How often the path with this code was gone");
        PathProfiler x = Shape.of(0, 0, 1);
        CHECK.due("not yet, times(1)", x.times(1), 0);
        CHECK.due("not yet, times(12)", x.times(12), 0);
        x.run(1 << 23, 24);
        CHECK.due("times(1)", x.times(1), 23);
        CHECK.due("times(12)", x.times(12), 1);
    }

    private static void timesOfNoPath() {
        CHECK.sentence("times: NONE if there is no such path");
        PathProfiler x = Shape.of(0, 1, -1, 1, 2, 3);
        x.run(0, 1);
        int[] none = {
            0, -1, -123, 1, 2, 3, 12, 13, 23, 122, 125, 132, 321, 213, 1123, 1223, 1233, 1234, 1230,
            102, 120, 103, 1023, 10203, 10, 1000, 1000000000, 1000000123, 1123456789, 123456789,
            1234567891, 2000000000, Integer.MAX_VALUE, Integer.MIN_VALUE, Integer.MIN_VALUE + 123};
        for (int code : none) {
            CHECK.due("times(" + code + ")", x.times(code), NONE);
        }
        CHECK.due("times(123), a path", x.times(123), 1);
        CHECK.due("times(124), a path never gone", x.times(124), 0);
    }

    private static void distinctPaths() {
        CHECK.sentence("How many different paths were gone");
        PathProfiler x = Shape.of(0, 0, 1);
        CHECK.due("none", x.distinct(), 0);
        x.run(0, 0);
        CHECK.due("none, a run unfinished", x.distinct(), 0);
        x.run(0, 24);
        CHECK.due("one, 24 times", x.distinct(), 1);
        x.run(1, 1);
        CHECK.due("two", x.distinct(), 2);
        x = Shape.of();
        x.lead(0, 8, -1);
        for (int b = 8; b >= 2; b--) {
            x.lead(b, b - 1, -1);
        }
        x.run(0, 0);
        CHECK.due("eight in one run", x.distinct(), 8);
        CHECK.due("as many as are possible", x.possible(), 8);
    }

    private static void goneAllTogether() {
        CHECK.sentence("How often paths were gone, all together");
        PathProfiler x = Shape.of(0, 0, 1);
        CHECK.due("no run", x.gone(), 0);
        x.run(0, 0);
        CHECK.due("a run unfinished at once", x.gone(), 0);
        x.run(0, 24);
        CHECK.due("24 times", x.gone(), 24);
        x.run(1, 1);
        CHECK.due("another path once", x.gone(), 25);
    }

    private static void hottestMostOften() {
        CHECK.sentence("The code of the path that was gone most often");
        PathProfiler x = Shape.of(0, 1, 2);
        x.run(1, 1);
        CHECK.due("the only one, the greater code", x.hottest(), 13);
        x.run(1, 1);
        x.run(0, 1);
        CHECK.due("twice against once", x.hottest(), 13);
        x.run(0, 1);
        x.run(0, 1);
        CHECK.due("three times against twice", x.hottest(), 12);
    }

    private static void hottestOfSeveral() {
        CHECK.sentence("hottest: of several the one with the least code");
        PathProfiler x = Shape.of(0, 2, 1, 1, 2, -1);
        x.run(1, 1);
        CHECK.due("one", x.hottest(), 123);
        x.run(0, 1);
        CHECK.due("as often, the shorter one gone later", x.hottest(), 13);
        x = Shape.of(0, 2, 1, 1, 2, -1);
        x.run(0, 1);
        x.run(1, 1);
        CHECK.due("as often, the shorter one gone first", x.hottest(), 13);
        x = Shape.of(0, 8, -1, 8, 2, -1);
        x.run(0, 0);
        CHECK.due("3 against 19, from other heads", x.hottest(), 3);
        x = Shape.of(0, 1, 3, 1, 8, -1, 3, 4, -1);
        x.run(0, 1);
        x.run(1, 1);
        CHECK.due("129 against 145, by their second block", x.hottest(), 129);
    }

    private static void hottestOfNone() {
        CHECK.sentence("hottest: NONE if none was gone");
        PathProfiler x = Shape.of(0, 1, 2);
        CHECK.due("no run", x.hottest(), NONE);
        x.run(0, 25);
        CHECK.due("a refused run", x.hottest(), NONE);
        x.run(0, 0);
        CHECK.due("an unfinished run", x.hottest(), NONE);
        x.run(0, 1);
        CHECK.due("a path gone", x.hottest(), 12);
        x.lead(0, 1, 3);
        CHECK.due("all forgotten", x.hottest(), NONE);
    }

    private static void pathInOrder() {
        CHECK.sentence("The code of the k-th (0 is the first) of all possible paths, ordered by "
            + "their codes");
        List<Integer> got = Shape.paths(Shape.of(0, 1, 8, 1, 8, 2, 2, 1, 3, 8, 8, 4));
        List<Integer> due = List.of(5, 9, 19, 23, 29, 123, 129, 234, 1234);
        CHECK.holds(got + ", due are " + due, got.equals(due));
        PathProfiler x = Shape.crowded();
        int last = 0;
        for (int k = 0; k < 131; k++) {
            int code = x.path(k);
            CHECK.holds("path(" + k + ") after " + last, code > last);
            CHECK.due("times(" + code + ")", x.times(code), 0);
            last = code;
        }
        CHECK.due("path(131) of 131", x.path(131), NONE);
    }

    private static void pathThatIsNone() {
        CHECK.sentence("path: NONE if there is none");
        PathProfiler x = Shape.of(0, 1, 2);
        for (int k : Shape.WIDE) {
            CHECK.due("path(" + k + ") of two", x.path(k), k == 0 ? 12 : k == 1 ? 13 : NONE);
        }
        x.lead(0, -1, -1);
        CHECK.due("path(0) of one", x.path(0), 1);
        CHECK.due("path(1) of one", x.path(1), NONE);
    }

    private static void throughNoneToAll() {
        CHECK.sentence("How many of the possible paths have block b");
        PathProfiler x = Shape.of(0, 1, 2, 1, 2, -1, 2, 3, 4);
        int[] due = {4, 2, 4, 2, 2, 0, 0, 0, 0};
        for (int b = 0; b <= 8; b++) {
            CHECK.due("through(" + b + ") of four", x.through(b), due[b]);
        }
        x.run(0, 2);
        CHECK.due("gone or not, through(3)", x.through(3), 2);
        x = new PathProfiler();
        CHECK.due("through(0) of one", x.through(0), 1);
        CHECK.due("through(8) of one", x.through(8), 0);
        x = Shape.chain();
        CHECK.due("through(8) of one with all blocks", x.through(8), 1);
    }

    private static void throughNoBlock() {
        CHECK.sentence("through: BAD_ARG if b is not 0 to 8");
        PathProfiler x = Shape.chain();
        for (int b : Shape.WIDE) {
            CHECK.due("through(" + b + ")", x.through(b), b < 0 || b > 8 ? BAD_ARG : 1);
        }
    }

    private static void visitsAllTogether() {
        CHECK.sentence("How often block b was in a path gone, all together");
        PathProfiler x = Shape.of(0, 1, -1, 1, 2, 3, 2, 1, -1);
        CHECK.due("visits(0) before", x.visits(0), 0);
        CHECK.due("run(4, 3): 0 1 2, 1 2, 1 3", x.run(4, 3), 6);
        int[] due = {1, 3, 2, 1, 0, 0, 0, 0, 0};
        for (int b = 0; b <= 8; b++) {
            CHECK.due("visits(" + b + ")", x.visits(b), due[b]);
        }
        CHECK.due("run(0, 1): 0 1 2, 1 unfinished", x.run(0, 1), 3);
        CHECK.due("visits(1), not of the last piece", x.visits(1), 4);
    }

    private static void visitsOfNoBlock() {
        CHECK.sentence("visits: BAD_ARG if b is not 0 to 8");
        PathProfiler x = Shape.chain();
        x.run(0, 0);
        for (int b : Shape.WIDE) {
            CHECK.due("visits(" + b + ")", x.visits(b), b < 0 || b > 8 ? BAD_ARG : 1);
        }
    }

    private static void arcInPathsGone() {
        CHECK.sentence("How often the arc from b to c was in a path gone, all together");
        PathProfiler x = Shape.of(0, 1, 8, 1, 8, -1);
        CHECK.due("arc(0, 8) before", x.arc(0, 8), 0);
        x.run(0, 1);
        CHECK.due("arc(0, 8), both in the path 0 1 8", x.arc(0, 8), 0);
        CHECK.due("arc(0, 1)", x.arc(0, 1), 1);
        CHECK.due("arc(1, 8)", x.arc(1, 8), 1);
        x.run(1, 1);
        x.run(1, 1);
        CHECK.due("arc(0, 8) gone twice", x.arc(0, 8), 2);
        CHECK.due("arc(0, 1) not gone again", x.arc(0, 1), 1);
        x = Shape.rounds();
        x.run(0, 3);
        CHECK.due("arc(0, 1) in three paths of one run", x.arc(0, 1), 3);
        CHECK.due("arc(2, 3) in three paths of one run", x.arc(2, 3), 3);
        CHECK.due("arc(3, 4) not yet", x.arc(3, 4), 0);
    }

    private static void arcThatIsNoForwardArc() {
        CHECK.sentence("arc: 0 if there is no such forward arc");
        PathProfiler x = Shape.of(0, 1, -1, 1, 1, 2, 2, 0, 3);
        CHECK.due("run(26, 5): 0 1, 1 2, 0 1 2 3", x.run(26, 5), 7);
        int[][] none = {{1, 1}, {2, 0}, {0, 0}, {0, 2}, {0, 3}, {1, 0}, {2, 1}, {3, 4}, {7, 8}, {8, 8}};
        for (int[] a : none) {
            CHECK.due("arc(" + a[0] + ", " + a[1] + ")", x.arc(a[0], a[1]), 0);
        }
        CHECK.due("arc(1, 2), a forward arc", x.arc(1, 2), 2);
        for (int w : Shape.WIDE) {
            if (w < 0 || w > 8) {
                CHECK.due("arc(0, " + w + ")", x.arc(0, w), 0);
                CHECK.due("arc(8, " + w + ")", x.arc(8, w), 0);
                CHECK.due("arc(" + w + ", 0)", x.arc(w, 0), 0);
                CHECK.due("arc(" + w + ", 1)", x.arc(w, 1), 0);
                CHECK.due("arc(" + w + ", " + w + ")", x.arc(w, w), 0);
            }
        }
        // -1 is what an exit and a lone successor are led to.
        CHECK.due("arc(3, -1) of an exit", x.arc(3, -1), 0);
        CHECK.due("arc(-1, -1)", x.arc(-1, -1), 0);
    }

    private static void longestLeastAndMost() {
        CHECK.sentence("The greatest number of blocks of a possible path");
        CHECK.due("least", new PathProfiler().longest(), 1);
        CHECK.due("least, of four", Shape.of(8, 8, -1, 7, 7, -1, 1, 1, -1).longest(), 1);
        CHECK.due("most", Shape.chain().longest(), 9);
        CHECK.due("most, of 131", Shape.crowded().longest(), 9);
        CHECK.due("of a path from another head", Shape.of(3, 4, -1, 4, 5, -1, 5, 3, -1).longest(), 3);
        CHECK.due("of one never gone", Shape.of(0, 8, 1, 1, 2, -1).longest(), 3);
        CHECK.due("blocks, not arcs", Shape.of(0, 8, -1).longest(), 2);
        CHECK.due("not of a list from no head", Shape.of(3, 4, -1, 4, 5, -1).longest(), 1);
        PathProfiler x = Shape.chain();
        x.lead(4, 0, -1);
        CHECK.due("not over a back arc", x.longest(), 5);
    }
}
