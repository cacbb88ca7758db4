import java.util.List;

/** 'Terms', up to what a path is, and the constants: each edge by a test of its own. */
public final class TermsEdgesTest {
    private static final Check CHECK = new Check();
    private static final int BAD_ARG = PathProfiler.BAD_ARG;
    private static final int NONE = PathProfiler.NONE;

    public static void main(String[] args) {
        blocks();
        noSuccessor();
        oneSuccessor();
        twoSuccessors();
        firstAndSecond();
        eachIsABlock();
        backArc();
        headZero();
        headsOfBackArcs();
        endsThatAreExits();
        endsOfBackArcs();
        oneBlockOrMore();
        firstAHead();
        lastAnEnd();
        forwardArcsAlone();
        codes();
        theConstants();
        CHECK.end();
    }

    private static void paths(String of, PathProfiler x, Integer... codes) {
        List<Integer> due = List.of(codes);
        List<Integer> got = Shape.paths(x);
        CHECK.holds(of + ": paths " + got + ", due are " + due, got.equals(due));
        CHECK.due(of + ": path past the last", x.path(codes.length), NONE);
    }

    private static void blocks() {
        CHECK.sentence("BLOCKS are 0 to 8");
        for (int b : Shape.WIDE) {
            boolean block = b >= 0 && b <= 8;
            PathProfiler x = new PathProfiler();
            CHECK.due("lead(" + b + ", 3, 4)", x.lead(b, 3, 4), block ? 0 : BAD_ARG);
            CHECK.due("successors(" + b + ")", x.successors(b), block ? 2 : BAD_ARG);
            CHECK.due("visits(" + b + ")", x.visits(b), block ? 0 : BAD_ARG);
            CHECK.holds("through(" + b + ")", block == (x.through(b) != BAD_ARG));
        }
        PathProfiler x = Shape.of(0, 8, -1);
        CHECK.due("run(0, 0) from 0 to 8", x.run(0, 0), 1);
        CHECK.due("visits(0)", x.visits(0), 1);
        CHECK.due("visits(8)", x.visits(8), 1);
        CHECK.due("arc(0, 8)", x.arc(0, 8), 1);
    }

    private static void noSuccessor() {
        CHECK.sentence("A block has no SUCCESSOR (it is an EXIT)");
        PathProfiler x = Shape.of(0, 1, 2);
        CHECK.due("lead(0, -1, -1)", x.lead(0, -1, -1), 2);
        CHECK.due("successors(0)", x.successors(0), 0);
        CHECK.due("run(0, 0) at an exit", x.run(0, 0), 0);
        CHECK.due("run(3, 2) at an exit", x.run(3, 2), 0);
        CHECK.due("times(1)", x.times(1), 2);
        CHECK.due("unfinished()", x.unfinished(), 0);
    }

    private static void oneSuccessor() {
        CHECK.sentence("A block has .. one");
        for (int c = 0; c <= 8; c++) {
            PathProfiler x = Shape.of(0, c, -1);
            CHECK.due("successors(0) after lead(0, " + c + ", -1)", x.successors(0), 1);
            CHECK.due("run(0, 0) after it", x.run(0, 0), c == 0 ? 40 : 1);
        }
    }

    private static void twoSuccessors() {
        CHECK.sentence("A block has .. two different ones");
        for (int c = 0; c <= 8; c++) {
            for (int d = 0; d <= 8; d++) {
                PathProfiler x = new PathProfiler();
                String call = "lead(4, " + c + ", " + d + ")";
                CHECK.due(call, x.lead(4, c, d), c == d ? BAD_ARG : 0);
                CHECK.due("successors(4) after " + call, x.successors(4), c == d ? 0 : 2);
            }
        }
    }

    private static void firstAndSecond() {
        CHECK.sentence("a first and a second");
        PathProfiler x = Shape.of(0, 8, 1);
        x.run(0, 1);
        CHECK.due("times(19), the first one being the greater", x.times(19), 1);
        x.lead(0, 1, 8);
        x.run(0, 1);
        CHECK.due("times(12), the first one being the lesser", x.times(12), 1);
        CHECK.due("times(19)", x.times(19), 0);
    }

    private static void eachIsABlock() {
        CHECK.sentence("each is a block");
        PathProfiler x = new PathProfiler();
        for (int w : Shape.WIDE) {
            if (w < -1 || w > 8) {
                CHECK.due("lead(0, " + w + ", -1)", x.lead(0, w, -1), BAD_ARG);
                CHECK.due("lead(0, 5, " + w + ")", x.lead(0, 5, w), BAD_ARG);
            }
        }
        CHECK.due("successors(0)", x.successors(0), 0);
        for (int b = 0; b <= 8; b++) {
            CHECK.due("a block may lead to itself, " + b, x.lead(b, b, -1), 0);
        }
    }

    private static void backArc() {
        CHECK.sentence("The arc from a block b to a successor c is a BACK ARC if c <= b, else a "
            + "FORWARD ARC");
        for (int b = 0; b <= 8; b++) {
            for (int c = 0; c <= 8; c++) {
                String lead = "lead(" + b + ", " + c + ", -1)";
                PathProfiler x = Shape.of(b, c, -1);
                if (c > b) {
                    paths(lead, x, b == 0 ? 10 + c + 1 : 1);
                } else if (c > 0) {
                    paths(lead, x, 1, c + 1);
                } else {
                    paths(lead, x, 1);
                }
            }
        }
        PathProfiler x = Shape.of(0, 1, -1, 1, 1, 2);
        CHECK.due("run(2, 2) over the arc from 1 to 1", x.run(2, 2), 3);
        CHECK.due("times(12)", x.times(12), 1);
        CHECK.due("times(23)", x.times(23), 1);
        CHECK.due("arc(1, 1)", x.arc(1, 1), 0);
        CHECK.due("arc(1, 2)", x.arc(1, 2), 1);
    }

    private static void headZero() {
        CHECK.sentence("The HEADS are block 0");
        paths("no arc at all", new PathProfiler(), 1);
        paths("a back arc to 0 makes no second head", Shape.of(8, 0, -1), 1);
        paths("two back arcs to 0", Shape.of(8, 0, -1, 0, 0, -1), 1);
        paths("0 on, no back arc", Shape.of(0, 3, -1), 14);
    }

    private static void headsOfBackArcs() {
        CHECK.sentence("and all blocks to which some back arc leads");
        paths("8 to itself", Shape.of(8, 8, -1), 1, 9);
        paths("as the first of two", Shape.of(5, 3, 6), 1, 4);
        paths("as the second of two", Shape.of(5, 6, 3), 1, 4);
        paths("both of two", Shape.of(5, 3, 2), 1, 3, 4);
        paths("two arcs to one block", Shape.of(5, 3, -1, 6, 3, -1), 1, 4);
        paths("a forward arc makes none", Shape.of(3, 5, -1), 1);
        PathProfiler x = Shape.of(5, 3, -1);
        x.lead(5, -1, -1);
        paths("taken away again", x, 1);
        x = Shape.of();
        for (int b = 0; b <= 8; b++) {
            x.lead(b, b, -1);
        }
        paths("all of them", x, 1, 2, 3, 4, 5, 6, 7, 8, 9);
    }

    private static void endsThatAreExits() {
        CHECK.sentence("A block is an END if it is an exit");
        paths("0 an exit", new PathProfiler(), 1);
        paths("0 no exit", Shape.of(0, 1, -1), 12);
        paths("0 no exit, two forward arcs", Shape.of(0, 1, 2), 12, 13);
        paths("1 no exit", Shape.of(0, 1, -1, 1, 2, 3), 123, 124);
        paths("8 an exit", Shape.chain(), 123456789);
    }

    private static void endsOfBackArcs() {
        CHECK.sentence("or some back arc leads from it");
        paths("one, to itself", Shape.of(0, 0, -1), 1);
        paths("the first of two", Shape.of(0, 0, 1), 1, 12);
        paths("the second of two", Shape.of(0, 1, 0), 1, 12);
        paths("to a lower block", Shape.of(0, 1, -1, 1, 0, -1), 12);
        paths("to a lower block and on", Shape.of(0, 1, -1, 1, 2, 0), 12, 123);
        paths("both of two", Shape.of(0, 2, -1, 2, 0, 2), 3, 13);
        paths("an arc to it is none from it", Shape.of(0, 1, -1, 1, 2, -1, 2, 1, -1), 23, 123);
    }

    private static void oneBlockOrMore() {
        CHECK.sentence("A PATH is a list of one or more blocks");
        PathProfiler x = new PathProfiler();
        CHECK.due("the empty list, times(0)", x.times(0), NONE);
        CHECK.due("one block, times(1)", x.times(1), 0);
        CHECK.due("one block, longest()", x.longest(), 1);
        x = Shape.chain();
        CHECK.due("all nine blocks, times(123456789)", x.times(123456789), 0);
        CHECK.due("all nine blocks, longest()", x.longest(), 9);
        x = Shape.of(8, 8, -1);
        CHECK.due("the last block alone, times(9)", x.times(9), 0);
    }

    private static void firstAHead() {
        CHECK.sentence("the first a head");
        PathProfiler x = Shape.chain();
        CHECK.due("times(23456789)", x.times(23456789), NONE);
        CHECK.due("times(9)", x.times(9), NONE);
        x.lead(8, 8, -1);
        CHECK.due("times(9), 8 being a head now", x.times(9), 0);
        CHECK.due("times(89)", x.times(89), NONE);
    }

    private static void lastAnEnd() {
        CHECK.sentence("the last an end");
        PathProfiler x = Shape.chain();
        CHECK.due("times(12345678)", x.times(12345678), NONE);
        CHECK.due("times(1)", x.times(1), NONE);
        x.lead(7, 8, 7);
        CHECK.due("times(12345678), 7 being an end now", x.times(12345678), 0);
        CHECK.due("times(1234567)", x.times(1234567), NONE);
    }

    private static void forwardArcsAlone() {
        CHECK.sentence("from each but the last a forward arc leads to the next one");
        PathProfiler x = Shape.of(0, 1, 0, 1, 2, 0);
        paths("loops and on", x, 1, 12, 123);
        CHECK.due("over the arc from 0 to 0, times(11)", x.times(11), NONE);
        CHECK.due("over the arc from 1 to 0, times(121)", x.times(121), NONE);
        CHECK.due("over the arc from 1 to 0, times(1212)", x.times(1212), NONE);
        CHECK.due("over the arc from 1 to 0, times(21)", x.times(21), NONE);
        CHECK.due("over no arc, times(13)", x.times(13), NONE);
        CHECK.due("over no arc, times(19)", x.times(19), NONE);
        CHECK.due("the list turned round, times(321)", x.times(321), NONE);
    }

    private static void codes() {
        CHECK.sentence("begin with 0, and for each block b, from the first on, make code * 10 + b "
            + "+ 1 of it");
        paths("the least code", new PathProfiler(), 1);
        paths("the greatest code", Shape.chain(), 123456789);
        for (int c = 1; c <= 8; c++) {
            PathProfiler x = Shape.of(0, c, -1);
            paths("0 and " + c, x, 11 + c);
            x.run(0, 0);
            CHECK.due("hottest()", x.hottest(), 11 + c);
            CHECK.due("times(" + (11 + c) + ")", x.times(11 + c), 1);
            CHECK.due("without the 1 for each block, times(" + c + ")", x.times(c), NONE);
        }
    }

    private static void theConstants() {
        CHECK.sentence("BAD_ARG = -1: An argument is out of its range. NONE = -4: There is no such "
            + "path or block");
        PathProfiler x = new PathProfiler();
        CHECK.due("BAD_ARG", BAD_ARG, -1);
        CHECK.due("NONE", NONE, -4);
        CHECK.due("successors(9)", x.successors(9), -1);
        CHECK.due("path(1)", x.path(1), -4);
    }
}
