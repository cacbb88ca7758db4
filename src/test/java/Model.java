import java.util.ArrayList;
import java.util.List;
import java.util.TreeMap;
import java.util.TreeSet;

/** The document told a second time, over lists and maps, to compare the program with. */
final class Model {
    private final List<List<Integer>> next = new ArrayList<>();
    private final TreeMap<Integer, Integer> times = new TreeMap<>();
    private int unfinished = 0;

    Model() {
        for (int b = 0; b <= 8; b++) {
            next.add(List.of());
        }
    }

    private static boolean outside(int value, int least, int most) {
        return value < least || value > most;
    }

    int lead(int b, int c, int d) {
        if (outside(b, 0, 8) || outside(c, -1, 8) || outside(d, -1, 8)) {
            return -1;
        }
        if (c == -1 && d != -1 || c != -1 && c == d) {
            return -1;
        }
        List<Integer> now = c == -1 ? List.of() : d == -1 ? List.of(c) : List.of(c, d);
        List<Integer> old = next.set(b, now);
        if (!old.equals(now)) {
            times.clear();
            unfinished = 0;
        }
        return old.size();
    }

    int successors(int b) {
        return outside(b, 0, 8) ? -1 : next.get(b).size();
    }

    int run(int choices, int many) {
        if (outside(many, 0, 24)) {
            return -1;
        }
        List<Integer> blocks = new ArrayList<>(List.of(0));
        int choice = 0;
        while (blocks.size() <= 40) {
            List<Integer> to = next.get(blocks.get(blocks.size() - 1));
            if (to.isEmpty() || to.size() == 2 && choice == many) {
                break;
            }
            blocks.add(to.size() == 1 ? to.get(0) : to.get((choices >>> choice++) % 2 == 0 ? 0 : 1));
        }
        countPieces(blocks);
        return blocks.size() - 1;
    }

    private void countPieces(List<Integer> blocks) {
        int code = 0;
        int last = -1;
        for (int block : blocks) {
            if (block <= last) {
                times.merge(code, 1, Integer::sum);
                code = 0;
            }
            code = code * 10 + block + 1;
            last = block;
        }
        if (next.get(last).isEmpty()) {
            times.merge(code, 1, Integer::sum);
        } else {
            unfinished++;
        }
    }

    private TreeSet<Integer> paths() {
        TreeSet<Integer> heads = new TreeSet<>(List.of(0));
        for (int b = 0; b <= 8; b++) {
            for (int c : next.get(b)) {
                if (c <= b) {
                    heads.add(c);
                }
            }
        }
        TreeSet<Integer> found = new TreeSet<>();
        for (int head : heads) {
            goOn(head, head + 1, found);
        }
        return found;
    }

    private void goOn(int b, int code, TreeSet<Integer> found) {
        boolean end = next.get(b).isEmpty();
        for (int c : next.get(b)) {
            if (c <= b) {
                end = true;
            } else {
                goOn(c, code * 10 + c + 1, found);
            }
        }
        if (end) {
            found.add(code);
        }
    }

    int possible() {
        return paths().size();
    }

    int times(int code) {
        return paths().contains(code) ? times.getOrDefault(code, 0) : -4;
    }

    int distinct() {
        return times.size();
    }

    int gone() {
        return times.values().stream().mapToInt(n -> n).sum();
    }

    int hottest() {
        int most = times.values().stream().mapToInt(n -> n).max().orElse(0);
        return times.keySet().stream().filter(c -> times.get(c) == most).findFirst().orElse(-4);
    }

    int path(int k) {
        List<Integer> all = new ArrayList<>(paths());
        return outside(k, 0, all.size() - 1) ? -4 : all.get(k);
    }

    int through(int b) {
        if (outside(b, 0, 8)) {
            return -1;
        }
        return (int) paths().stream().filter(code -> holds(code, "" + (b + 1))).count();
    }

    int visits(int b) {
        return outside(b, 0, 8) ? -1 : goneWith("" + (b + 1));
    }

    int arc(int b, int c) {
        if (outside(b, 0, 8) || c <= b || !next.get(b).contains(c)) {
            return 0;
        }
        return goneWith("" + (b + 1) + (c + 1));
    }

    int unfinished() {
        return unfinished;
    }

    int longest() {
        return String.valueOf(paths().last()).length();
    }

    private static boolean holds(int code, String digits) {
        return String.valueOf(code).contains(digits);
    }

    private int goneWith(String digits) {
        return times.keySet().stream().filter(c -> holds(c, digits)).mapToInt(times::get).sum();
    }
}
