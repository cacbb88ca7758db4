/**
 * Runs through the blocks of a program, cut into paths where they go back, and how often each path
 * was gone.
 *
 * Forward arcs only lead to higher blocks, so a path is known by the set of its blocks alone: it is
 * held as a number whose binary digit b tells whether block b is in it.
 */
public final class PathProfiler {
    public static final int BAD_ARG = -1;
    public static final int NONE = -4;

    private static final int BLOCKS = 9;
    private static final int SETS = 512;
    private static final int FILLED_SETS = 511;
    private static final int NO_BLOCK = -1;
    private static final int MOST_CHOICES = 24;
    private static final int MOST_ARCS = 40;

    private final int[] firstOf = new int[BLOCKS];
    private final int[] secondOf = new int[BLOCKS];
    private final int[] codeOf = new int[SETS];
    // Every set but the empty one, by rising code: leads change which are paths, never their order.
    private final int[] setsByCode = new int[FILLED_SETS];
    private final boolean[] isPath = new boolean[SETS];
    private final int[] timesGone = new int[SETS];
    private int unfinishedRuns = 0;

    public PathProfiler() {
        for (int b = 0; b < BLOCKS; b++) {
            firstOf[b] = NO_BLOCK;
            secondOf[b] = NO_BLOCK;
        }
        makeCodes();
        orderByCode();
        findPaths();
    }

    public int lead(int b, int c, int d) {
        if (!isBlock(b) || !areSuccessors(c, d)) {
            return BAD_ARG;
        }
        int before = countSuccessors(b);
        if (firstOf[b] != c || secondOf[b] != d) {
            firstOf[b] = c;
            secondOf[b] = d;
            findPaths();
            forgetCounts();
        }
        return before;
    }

    public int successors(int b) {
        return isBlock(b) ? countSuccessors(b) : BAD_ARG;
    }

    public int run(int choices, int many) {
        if (many < 0 || many > MOST_CHOICES) {
            return BAD_ARG;
        }
        int block = 0;
        int piece = 1;
        int used = 0;
        int arcs = 0;
        for (; arcs < MOST_ARCS && !isExit(block); arcs++) {
            int next = firstOf[block];
            if (hasTwo(block)) {
                if (used == many) {
                    break;
                }
                if (((choices >> used) & 1) == 1) {
                    next = secondOf[block];
                }
                used++;
            }
            if (next <= block) {
                timesGone[piece]++;
                piece = 0;
            }
            piece |= 1 << next;
            block = next;
        }
        if (isExit(block)) {
            timesGone[piece]++;
        } else {
            unfinishedRuns++;
        }
        return arcs;
    }

    public int possible() {
        int count = 0;
        for (int set = 1; set < SETS; set++) {
            if (isPath[set]) {
                count++;
            }
        }
        return count;
    }

    public int times(int code) {
        for (int set = 1; set < SETS; set++) {
            if (isPath[set] && codeOf[set] == code) {
                return timesGone[set];
            }
        }
        return NONE;
    }

    public int distinct() {
        int count = 0;
        for (int set = 1; set < SETS; set++) {
            if (timesGone[set] > 0) {
                count++;
            }
        }
        return count;
    }

    public int gone() {
        int sum = 0;
        for (int set = 1; set < SETS; set++) {
            sum += timesGone[set];
        }
        return sum;
    }

    public int hottest() {
        int most = 0;
        int code = NONE;
        for (int i = 0; i < FILLED_SETS; i++) {
            int set = setsByCode[i];
            // Only a greater count wins, so that of equal ones the least code stays.
            if (timesGone[set] > most) {
                most = timesGone[set];
                code = codeOf[set];
            }
        }
        return code;
    }

    public int path(int k) {
        int before = 0;
        for (int i = 0; i < FILLED_SETS; i++) {
            int set = setsByCode[i];
            if (isPath[set]) {
                if (before == k) {
                    return codeOf[set];
                }
                before++;
            }
        }
        return NONE;
    }

    public int through(int b) {
        if (!isBlock(b)) {
            return BAD_ARG;
        }
        int count = 0;
        for (int set = 1; set < SETS; set++) {
            if (isPath[set] && has(set, b)) {
                count++;
            }
        }
        return count;
    }

    public int visits(int b) {
        if (!isBlock(b)) {
            return BAD_ARG;
        }
        int sum = 0;
        for (int set = 1; set < SETS; set++) {
            if (has(set, b)) {
                sum += timesGone[set];
            }
        }
        return sum;
    }

    public int arc(int b, int c) {
        if (!isBlock(b) || !isBlock(c) || c <= b || !leadsTo(b, c)) {
            return 0;
        }
        int ends = (1 << b) | (1 << c);
        // Digits b to c: a path with another block between the two did not go over this arc.
        int span = (2 << c) - (1 << b);
        int sum = 0;
        for (int set = 1; set < SETS; set++) {
            if ((set & span) == ends) {
                sum += timesGone[set];
            }
        }
        return sum;
    }

    public int unfinished() {
        return unfinishedRuns;
    }

    public int longest() {
        int most = 0;
        for (int set = 1; set < SETS; set++) {
            if (isPath[set]) {
                int size = countBlocks(set);
                if (size > most) {
                    most = size;
                }
            }
        }
        return most;
    }

    private static boolean isBlock(int b) {
        return b >= 0 && b < BLOCKS;
    }

    private static boolean areSuccessors(int c, int d) {
        if (d == NO_BLOCK) {
            return c == NO_BLOCK || isBlock(c);
        }
        return isBlock(c) && isBlock(d) && c != d;
    }

    private static boolean has(int set, int b) {
        return ((set >> b) & 1) == 1;
    }

    private static int countBlocks(int set) {
        int count = 0;
        for (int b = 0; b < BLOCKS; b++) {
            if (has(set, b)) {
                count++;
            }
        }
        return count;
    }

    private boolean isExit(int b) {
        return firstOf[b] == NO_BLOCK;
    }

    private boolean hasTwo(int b) {
        return secondOf[b] != NO_BLOCK;
    }

    private int countSuccessors(int b) {
        if (isExit(b)) {
            return 0;
        }
        return hasTwo(b) ? 2 : 1;
    }

    private boolean leadsTo(int b, int c) {
        return firstOf[b] == c || secondOf[b] == c;
    }

    private boolean isHead(int c) {
        if (c == 0) {
            return true;
        }
        for (int b = c; b < BLOCKS; b++) {
            if (leadsTo(b, c)) {
                return true;
            }
        }
        return false;
    }

    private boolean isEnd(int b) {
        if (isExit(b)) {
            return true;
        }
        return firstOf[b] <= b || (hasTwo(b) && secondOf[b] <= b);
    }

    private boolean formsPath(int set) {
        int last = NO_BLOCK;
        for (int b = 0; b < BLOCKS; b++) {
            if (has(set, b)) {
                boolean fits = last == NO_BLOCK ? isHead(b) : leadsTo(last, b);
                if (!fits) {
                    return false;
                }
                last = b;
            }
        }
        return last != NO_BLOCK && isEnd(last);
    }

    private void findPaths() {
        for (int set = 1; set < SETS; set++) {
            isPath[set] = formsPath(set);
        }
    }

    private void forgetCounts() {
        for (int set = 0; set < SETS; set++) {
            timesGone[set] = 0;
        }
        unfinishedRuns = 0;
    }

    private void makeCodes() {
        for (int set = 1; set < SETS; set++) {
            int code = 0;
            for (int b = 0; b < BLOCKS; b++) {
                if (has(set, b)) {
                    code = code * 10 + b + 1;
                }
            }
            codeOf[set] = code;
        }
    }

    private void orderByCode() {
        for (int set = 1; set < SETS; set++) {
            int place = set - 1;
            for (; place > 0 && codeOf[setsByCode[place - 1]] > codeOf[set]; place--) {
                setsByCode[place] = setsByCode[place - 1];
            }
            setsByCode[place] = set;
        }
    }
}
