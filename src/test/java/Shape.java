import java.util.ArrayList;
import java.util.List;

/** Objects to test on, and what can be asked of one. */
final class Shape {
    /** The least and greatest ints, those about each bound of the document, and some between. */
    static final int[] WIDE = {
        Integer.MIN_VALUE, Integer.MIN_VALUE + 1, -123456789, -512, -33, -32, -31, -10, -9, -2, -1,
        0, 1, 2, 7, 8, 9, 10, 23, 24, 25, 31, 32, 33, 40, 41, 511, 512, 513, 123456789, 987654321,
        Integer.MAX_VALUE - 1, Integer.MAX_VALUE};

    private Shape() {
    }

    /** A new object after these leads, three numbers each. */
    static PathProfiler of(int... leads) {
        PathProfiler x = new PathProfiler();
        for (int i = 0; i < leads.length; i += 3) {
            x.lead(leads[i], leads[i + 1], leads[i + 2]);
        }
        return x;
    }

    /** 0 1 2 .. 8, each block leading to the next one alone. */
    static PathProfiler chain() {
        return of(0, 1, -1, 1, 2, -1, 2, 3, -1, 3, 4, -1, 4, 5, -1, 5, 6, -1, 6, 7, -1, 7, 8, -1);
    }

    /** 0 1 2 3, then back to 0 (choice 0) or on to the exit 4 (choice 1): four arcs a round. */
    static PathProfiler rounds() {
        return of(0, 1, -1, 1, 2, -1, 2, 3, -1, 3, 0, 4);
    }

    /** 131 paths, the most that a search over shapes has found. */
    static PathProfiler crowded() {
        return of(0, 1, 2, 1, 2, 3, 2, 3, 4, 3, 4, 5, 4, 5, 6, 5, 7, 6, 6, 7, 4, 7, 1, 8, 8, 3, 2);
    }

    /** Codes of all possible paths, in the order of path(k). */
    static List<Integer> paths(PathProfiler x) {
        List<Integer> codes = new ArrayList<>();
        int possible = x.possible();
        for (int k = 0; k < possible; k++) {
            codes.add(x.path(k));
        }
        return codes;
    }

    /** All that an object with few paths can be asked, in some 120 calls that change nothing. */
    static List<Integer> answers(PathProfiler x) {
        List<Integer> all = new ArrayList<>();
        for (int code : paths(x)) {
            all.add(code);
            all.add(x.times(code));
        }
        for (int b = 0; b <= 8; b++) {
            all.add(x.successors(b));
            all.add(x.through(b));
            all.add(x.visits(b));
            for (int c = b + 1; c <= 8; c++) {
                all.add(x.arc(b, c));
            }
        }
        all.addAll(List.of(x.distinct(), x.gone(), x.hottest(), x.unfinished(), x.longest()));
        return all;
    }
}
