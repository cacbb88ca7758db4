import java.util.Arrays;

/** Promises 5, 10, 11 and 15: which paths are possible, and NONE of promise 6 for all others. */
public final class PathsTest {
    private static final Check CHECK = new Check();
    private static final int BAD_ARG = PathProfiler.BAD_ARG;
    private static final int NONE = PathProfiler.NONE;

    public static void main(String[] args) {
        chain();
        loopOnOneBlock();
        unreachedBackArcMakesAHead();
        headsAndEndsWithinPaths();
        shorterCodesComeFirst();
        longestIsNotTheGreatestByAnyHead();
        mostPaths();
        codesThatAreNoPath();
        refusals();
        CHECK.end();
    }

    /** Checks the paths, and every answer that follows from them alone. */
    private static void paths(String of, PathProfiler x, int... codes) {
        CHECK.due(of + ": possible()", x.possible(), codes.length);
        int longest = 0;
        int[] through = new int[9];
        for (int k = 0; k < codes.length; k++) {
            CHECK.due(of + ": path(" + k + ")", x.path(k), codes[k]);
            CHECK.holds(of + ": times(" + codes[k] + ")", x.times(codes[k]) >= 0);
            String digits = String.valueOf(codes[k]);
            longest = Math.max(longest, digits.length());
            for (char digit : digits.toCharArray()) {
                through[digit - '1']++;
            }
        }
        CHECK.due(of + ": path past the last", x.path(codes.length), NONE);
        CHECK.due(of + ": longest()", x.longest(), longest);
        for (int b = 0; b <= 8; b++) {
            CHECK.due(of + ": through(" + b + ")", x.through(b), through[b]);
        }
    }

    private static void chain() {
        PathProfiler x = new PathProfiler();
        for (int b = 0; b < 8; b++) {
            x.lead(b, b + 1, -1);
        }
        paths("chain", x, 123456789);
        x.lead(8, 8, -1);
        paths("chain with a loop at its last block", x, 9, 123456789);
        x.lead(8, 0, -1);
        paths("ring", x, 123456789);
        x.lead(8, 4, -1);
        paths("ring from 4", x, 56789, 123456789);
    }

    private static void loopOnOneBlock() {
        PathProfiler x = new PathProfiler();
        x.lead(0, 0, -1);
        paths("loop", x, 1);
        x.lead(0, 0, 1);
        paths("loop and on", x, 1, 12);
        x.lead(0, 1, 0);
        paths("on and loop", x, 1, 12);
    }

    private static void unreachedBackArcMakesAHead() {
        PathProfiler x = new PathProfiler();
        x.lead(7, 5, -1);
        paths("unreached", x, 1, 6);
        x.lead(5, 7, 6);
        paths("unreached and on", x, 1, 67, 68);
        x.lead(7, -1, -1);
        paths("no head any more", x, 1);
    }

    private static void headsAndEndsWithinPaths() {
        PathProfiler x = new PathProfiler();
        x.lead(0, 1, -1);
        x.lead(1, 2, 1);
        x.lead(2, 1, 3);
        paths("inner heads and ends", x, 2, 12, 23, 123, 234, 1234);
    }

    private static void shorterCodesComeFirst() {
        PathProfiler x = new PathProfiler();
        x.lead(0, 8, 1);
        x.lead(1, 2, 8);
        x.lead(2, 8, 3);
        x.lead(8, 2, -1);
        paths("order", x, 19, 34, 39, 129, 1234, 1239);
    }

    private static void longestIsNotTheGreatestByAnyHead() {
        PathProfiler x = new PathProfiler();
        x.lead(3, 4, -1);
        x.lead(4, 5, 3);
        paths("longest from an unreached head", x, 1, 45, 456);
    }

    private static void mostPaths() {
        PathProfiler x = new PathProfiler();
        for (int b = 0; b < 7; b++) {
            x.lead(b, b + 2, b + 1);
        }
        x.lead(7, 8, -1);
        CHECK.due("ladder: possible()", x.possible(), 34);
        CHECK.due("ladder: path(0)", x.path(0), 13579);
        CHECK.due("ladder: path(33)", x.path(33), 123456789);
        for (int k = 1; k < 34; k++) {
            CHECK.holds("ladder: path(" + k + ") is in order", x.path(k) > x.path(k - 1));
        }
    }

    private static PathProfiler few() {
        PathProfiler x = new PathProfiler();
        x.lead(0, 1, 2);
        x.lead(1, 2, 1);
        x.lead(2, 3, 2);
        return x;
    }

    private static void codesThatAreNoPath() {
        int[] paths = {2, 3, 12, 13, 23, 34, 123, 134, 234, 1234};
        paths("few", few(), paths);
        PathProfiler x = few();
        for (int code = -20; code <= 20000; code++) {
            // An object is promised for 512 calls alone.
            if (code % 500 == 0) {
                x = few();
            }
            boolean is = Arrays.binarySearch(paths, code) >= 0;
            CHECK.due("few: times(" + code + ")", x.times(code), is ? 0 : NONE);
        }
        x = few();
        int[] wide = {Integer.MIN_VALUE, -123, 1000000012, 1111111112, 123456789, Integer.MAX_VALUE};
        for (int w : wide) {
            CHECK.due("few: times(" + w + ")", x.times(w), NONE);
        }
    }

    private static void refusals() {
        PathProfiler x = new PathProfiler();
        int[] wide = {Integer.MIN_VALUE, -2, -1, 9, 10, 31, 32, 33, Integer.MAX_VALUE};
        for (int w : wide) {
            CHECK.due("through(" + w + ")", x.through(w), BAD_ARG);
            CHECK.due("path(" + w + ")", x.path(w), NONE);
        }
        CHECK.due("path(511)", x.path(511), NONE);
        CHECK.due("path(512)", x.path(512), NONE);
    }
}
