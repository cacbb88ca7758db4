/** All promises: many fixed, mixed rows of calls, each answer compared with the model's. */
public final class ModelTest {
    private static final Check CHECK = new Check();
    private static final int OBJECTS = 400;
    private static final int CALLS = 512;

    private long state = 20261115L;
    private PathProfiler program;
    private Model model;

    public static void main(String[] args) {
        ModelTest test = new ModelTest();
        for (int i = 0; i < OBJECTS; i++) {
            test.program = new PathProfiler();
            test.model = new Model();
            // From almost never to nearly half the calls: long counts and many shapes.
            int leads = 2 + i % 40;
            for (int call = 0; call < CALLS; call++) {
                test.oneCall(call < 12 ? 90 : leads);
            }
        }
        CHECK.end();
    }

    /** A number from low to high, the same ones in each test. */
    private int pick(int low, int high) {
        state = state * 6364136223846793005L + 1442695040888963407L;
        return low + (int) ((state >>> 33) % (high - low + 1));
    }

    private int block() {
        return pick(0, 19) == 0 ? pick(-3, 11) : pick(0, 8);
    }

    private int code() {
        int possible = model.possible();
        int near = model.path(pick(0, possible - 1));
        return switch (pick(0, 5)) {
            case 0 -> near + pick(-2, 2);
            case 1 -> near * 10 + pick(0, 9);
            case 2 -> near / 10;
            case 3 -> pick(-5, 200);
            default -> near;
        };
    }

    private void due(String call, int got, int want) {
        CHECK.due(call, got, want);
    }

    private void oneCall(int leads) {
        if (pick(0, 99) < leads) {
            int b = block();
            int c = pick(0, 4) == 0 ? -1 : pick(0, 2) == 0 ? block() : pick(Math.min(b, 8), 8);
            int d = c == -1 || pick(0, 2) == 0 ? -1 : block();
            due("lead(" + b + ", " + c + ", " + d + ")", program.lead(b, c, d), model.lead(b, c, d));
            return;
        }
        switch (pick(0, 4)) {
            case 0, 1 -> {
                int choices = pick(0, 1) == 0 ? pick(-9, 9) : (int) (state >>> 20);
                int many = pick(0, 30) == 0 ? pick(-2, 27) : pick(0, 24);
                due("run(" + choices + ", " + many + ")",
                    program.run(choices, many), model.run(choices, many));
            }
            case 2 -> askOfPaths();
            default -> askOfCounts();
        }
    }

    private void askOfPaths() {
        int b = block();
        int k = pick(0, 1) == 0 ? pick(-2, 12) : pick(0, model.possible() + 1);
        switch (pick(0, 4)) {
            case 0 -> due("successors(" + b + ")", program.successors(b), model.successors(b));
            case 1 -> due("possible()", program.possible(), model.possible());
            case 2 -> due("path(" + k + ")", program.path(k), model.path(k));
            case 3 -> due("through(" + b + ")", program.through(b), model.through(b));
            default -> due("longest()", program.longest(), model.longest());
        }
    }

    private void askOfCounts() {
        int b = block();
        int c = block();
        int code = code();
        switch (pick(0, 6)) {
            case 0 -> due("times(" + code + ")", program.times(code), model.times(code));
            case 1 -> due("distinct()", program.distinct(), model.distinct());
            case 2 -> due("gone()", program.gone(), model.gone());
            case 3 -> due("hottest()", program.hottest(), model.hottest());
            case 4 -> due("visits(" + b + ")", program.visits(b), model.visits(b));
            case 5 -> due("arc(" + b + ", " + c + ")", program.arc(b, c), model.arc(b, c));
            default -> due("unfinished()", program.unfinished(), model.unfinished());
        }
    }
}
