import java.util.List;
import java.util.function.IntSupplier;

/** How long an object is used, that no call throws, and that a refused call changes nothing. */
public final class LimitsTest {
    private static final Check CHECK = new Check();
    private static final int BAD_ARG = PathProfiler.BAD_ARG;
    private static final int NONE = PathProfiler.NONE;
    private static final int CALLS = 512;
    private static final String USED =
        "An object is used for at most 512 calls after it has been made";

    public static void main(String[] args) {
        runsUpToTheLastCall();
        leadsUpToTheLastCall();
        refusedCallsUpToTheLastCall();
        everyKindAsTheLastCall();
        oneArgumentNeverThrows();
        leadNeverThrows();
        neverThrowsPastTheLastCall();
        refusedCallsChangeNothing();
        CHECK.end();
    }

    private static void runsUpToTheLastCall() {
        CHECK.sentence(USED + ": runs");
        PathProfiler x = Shape.of(0, 0, -1);
        for (int call = 2; call < CALLS; call++) {
            CHECK.due("call " + call + ": run(0, 0)", x.run(0, 0), 40);
        }
        CHECK.due("call 512: gone()", x.gone(), 510 * 40);
        x = new PathProfiler();
        for (int call = 1; call < CALLS; call++) {
            CHECK.due("call " + call + ": run(-1, 24)", x.run(-1, 24), 0);
        }
        CHECK.due("call 512: times(1)", x.times(1), 511);
        x = Shape.of(0, 1, 2);
        for (int call = 2; call < CALLS; call++) {
            CHECK.due("call " + call + ": run(0, 0)", x.run(0, 0), 0);
        }
        CHECK.due("call 512: unfinished()", x.unfinished(), 510);
    }

    private static void leadsUpToTheLastCall() {
        CHECK.sentence(USED + ": leads");
        PathProfiler x = new PathProfiler();
        int[] had = new int[9];
        for (int call = 1; call <= CALLS; call++) {
            int b = call % 9;
            int gets = call * 5 % 7 % 3;
            int c = gets == 0 ? -1 : call % 8;
            int d = gets < 2 ? -1 : 8;
            CHECK.due("call " + call + ": lead(" + b + ", " + c + ", " + d + ")", x.lead(b, c, d), had[b]);
            had[b] = gets;
        }
    }

    private static void refusedCallsUpToTheLastCall() {
        CHECK.sentence(USED + ": refused ones");
        PathProfiler x = Shape.of(0, 0, -1);
        x.run(0, 0);
        for (int call = 3; call < CALLS; call++) {
            CHECK.due("call " + call + ": run(0, 25)", x.run(0, 25), BAD_ARG);
        }
        CHECK.due("call 512: times(1)", x.times(1), 40);
    }

    private static void everyKindAsTheLastCall() {
        CHECK.sentence(USED + ": each kind as the last one");
        last("lead(0, 1, 2)", x -> x.lead(0, 1, 2), 2);
        last("successors(0)", x -> x.successors(0), 2);
        last("run(4, 3)", x -> x.run(4, 3), 3);
        last("possible()", x -> x.possible(), 2);
        last("times(1)", x -> x.times(1), 508);
        last("times(12)", x -> x.times(12), 508);
        last("times(2)", x -> x.times(2), NONE);
        last("distinct()", x -> x.distinct(), 2);
        last("gone()", x -> x.gone(), 1016);
        last("hottest()", x -> x.hottest(), 1);
        last("path(1)", x -> x.path(1), 12);
        last("path(2)", x -> x.path(2), NONE);
        last("through(1)", x -> x.through(1), 1);
        last("visits(0)", x -> x.visits(0), 1016);
        last("visits(9)", x -> x.visits(9), BAD_ARG);
        last("arc(0, 1)", x -> x.arc(0, 1), 508);
        last("unfinished()", x -> x.unfinished(), 2);
        last("longest()", x -> x.longest(), 2);
    }

    private interface Call {
        int on(PathProfiler x);
    }

    /** A lead, two unfinished runs, 508 runs over 0 and 0 1, and this call: 512 in all. */
    private static void last(String what, Call call, int due) {
        PathProfiler x = Shape.of(0, 0, 1);
        x.run(0, 0);
        x.run(0, 0);
        for (int i = 0; i < 508; i++) {
            x.run(2, 2);
        }
        CHECK.due("call 512: " + what, call.on(x), due);
    }

    private static List<PathProfiler> states() {
        PathProfiler looped = Shape.of(0, 0, -1);
        looped.run(0, 0);
        PathProfiler backwards = Shape.of(0, 8, -1, 8, 7, 0, 7, 6, 8, 6, 6, -1);
        backwards.run(0b0101, 4);
        PathProfiler crowded = Shape.crowded();
        crowded.run(0b110101, 24);
        return List.of(new PathProfiler(), looped, Shape.chain(), backwards, crowded);
    }

    private static void quiet(String what, IntSupplier call) {
        boolean quiet = true;
        try {
            call.getAsInt();
        } catch (RuntimeException | Error e) {
            quiet = false;
        }
        CHECK.holds(what + " does not throw", quiet);
    }

    private static void oneArgumentNeverThrows() {
        CHECK.sentence("No call ever throws: questions and runs");
        for (int w : Shape.WIDE) {
            for (PathProfiler x : states()) {
                quiet("successors(" + w + ")", () -> x.successors(w));
                quiet("times(" + w + ")", () -> x.times(w));
                quiet("path(" + w + ")", () -> x.path(w));
                quiet("through(" + w + ")", () -> x.through(w));
                quiet("visits(" + w + ")", () -> x.visits(w));
                for (int v : Shape.WIDE) {
                    quiet("arc(" + w + ", " + v + ")", () -> x.arc(w, v));
                    quiet("run(" + w + ", " + v + ")", () -> x.run(w, v));
                }
                everyQuestion(x);
            }
        }
    }

    private static void everyQuestion(PathProfiler x) {
        quiet("possible()", x::possible);
        quiet("distinct()", x::distinct);
        quiet("gone()", x::gone);
        quiet("hottest()", x::hottest);
        quiet("unfinished()", x::unfinished);
        quiet("longest()", x::longest);
    }

    private static void leadNeverThrows() {
        CHECK.sentence("No call ever throws: leads");
        for (int b : Shape.WIDE) {
            for (int c : Shape.WIDE) {
                PathProfiler x = new PathProfiler();
                for (int d : Shape.WIDE) {
                    quiet("lead(" + b + ", " + c + ", " + d + ")", () -> x.lead(b, c, d));
                    quiet("run(" + d + ", 24)", () -> x.run(d, 24));
                    everyQuestion(x);
                }
            }
        }
    }

    private static void neverThrowsPastTheLastCall() {
        CHECK.sentence("No call ever throws: nor do later ones, whose answers are free");
        for (PathProfiler x : states()) {
            for (int i = 0; i < 3000; i++) {
                int n = i;
                quiet("run(" + n + ", 24)", () -> x.run(n, 24));
                quiet("lead", () -> x.lead(n % 9, n / 9 % 9, n / 81 % 10 - 1));
                everyQuestion(x);
            }
        }
    }

    private static void refusedCallsChangeNothing() {
        CHECK.sentence("A refused call answers the code named and changes nothing");
        unchanged("lead(-1, 0, 1)", x -> x.lead(-1, 0, 1), BAD_ARG);
        unchanged("lead(9, 0, 1)", x -> x.lead(9, 0, 1), BAD_ARG);
        unchanged("lead(1, -2, -1)", x -> x.lead(1, -2, -1), BAD_ARG);
        unchanged("lead(1, 9, -1)", x -> x.lead(1, 9, -1), BAD_ARG);
        unchanged("lead(1, 4, -2)", x -> x.lead(1, 4, -2), BAD_ARG);
        unchanged("lead(1, 4, 9)", x -> x.lead(1, 4, 9), BAD_ARG);
        unchanged("lead(1, -1, 4)", x -> x.lead(1, -1, 4), BAD_ARG);
        unchanged("lead(1, 4, 4)", x -> x.lead(1, 4, 4), BAD_ARG);
        unchanged("run(0, -1)", x -> x.run(0, -1), BAD_ARG);
        unchanged("run(0, 25)", x -> x.run(0, 25), BAD_ARG);
        unchanged("successors(-1)", x -> x.successors(-1), BAD_ARG);
        unchanged("successors(9)", x -> x.successors(9), BAD_ARG);
        unchanged("through(-1)", x -> x.through(-1), BAD_ARG);
        unchanged("through(9)", x -> x.through(9), BAD_ARG);
        unchanged("visits(-1)", x -> x.visits(-1), BAD_ARG);
        unchanged("visits(9)", x -> x.visits(9), BAD_ARG);
        unchanged("times(0)", x -> x.times(0), NONE);
        unchanged("times(1)", x -> x.times(1), NONE);
        unchanged("path(-1)", x -> x.path(-1), NONE);
        unchanged("path(3)", x -> x.path(3), NONE);
        unchanged("arc(9, 9)", x -> x.arc(9, 9), 0);
        unchanged("arc(1, 0)", x -> x.arc(1, 0), 0);
    }

    /** All answers are the same before and after, and so are those to a run that follows. */
    private static void unchanged(String what, Call call, int due) {
        PathProfiler x = partlyGone();
        PathProfiler untouched = partlyGone();
        CHECK.due(what, call.on(x), due);
        CHECK.holds("nothing changed by " + what, Shape.answers(x).equals(Shape.answers(untouched)));
        CHECK.due("run(0b1001, 4) after " + what, x.run(0b1001, 4), untouched.run(0b1001, 4));
        CHECK.holds("a run is as ever after " + what, Shape.answers(x).equals(Shape.answers(untouched)));
    }

    /** 0 to 1; 1 back to 0 or on to 2; 2 on to 3 or 4: two of three paths gone, one run unfinished. */
    private static PathProfiler partlyGone() {
        PathProfiler x = Shape.of(0, 1, -1, 1, 0, 2, 2, 3, 4);
        x.run(0b10, 3);
        x.run(0b10, 3);
        x.run(0, 1);
        return x;
    }
}
