import java.util.ArrayList;
import java.util.List;

/** The document's words put down literally, with lists and no care for speed: what the program is held against. */
final class PlainCover {
    final int primaries;
    final int secondaries;
    final List<List<int[]>> options = new ArrayList<>();
    List<int[]> pending = new ArrayList<>();
    boolean valid = false;
    int count = 0;
    List<List<Integer>> stored = new ArrayList<>();

    PlainCover(int primaries, int secondaries) {
        this.primaries = Math.max(1, Math.min(12, primaries));
        this.secondaries = Math.max(0, Math.min(8, secondaries));
    }

    int addItem(int item, int colour) {
        if (item < 0 || item > primaries + secondaries - 1) {
            return -1;
        }
        if (colour < 0 || colour > 15) {
            return -2;
        }
        if (item < primaries && colour != 0) {
            return -3;
        }
        if (colourIn(pending, item) != -1) {
            return -4;
        }
        if (options.stream().mapToInt(List::size).sum() + pending.size() >= 64) {
            return -5;
        }
        pending.add(new int[] {item, colour});
        return 0;
    }

    int endOption() {
        if (pending.isEmpty()) {
            return -6;
        }
        if (pending.stream().noneMatch(entry -> entry[0] < primaries)) {
            return -7;
        }
        if (options.size() == 16) {
            return -8;
        }
        options.add(pending);
        pending = new ArrayList<>();
        valid = false;
        return options.size() - 1;
    }

    int discardPending() {
        int held = pending.size();
        pending.clear();
        return held;
    }

    void clearOptions() {
        options.clear();
        pending.clear();
        valid = false;
    }

    int optionSize(int opt) {
        return opt < 0 || opt >= options.size() ? -1 : options.get(opt).size();
    }

    int optionEntry(int opt, int idx) {
        if (opt < 0 || opt >= options.size() || idx < 0 || idx >= options.get(opt).size()) {
            return -1;
        }
        int[] entry = options.get(opt).get(idx);
        return entry[0] * 16 + entry[1];
    }

    boolean isCover(int mask) {
        for (int bit = options.size(); bit < 32; bit++) {
            if ((mask & 1 << bit) != 0) {
                return false;
            }
        }
        for (int item = 0; item < primaries + secondaries; item++) {
            if (!isCoveredWell(item, mask)) {
                return false;
            }
        }
        return true;
    }

    private boolean isCoveredWell(int item, int mask) {
        int members = 0;
        int colour = 0;
        boolean allEqual = true;
        for (int opt = 0; opt < options.size(); opt++) {
            int here = (mask & 1 << opt) == 0 ? -1 : colourIn(options.get(opt), item);
            if (here != -1) {
                allEqual &= members == 0 || here == colour;
                colour = here;
                members++;
            }
        }
        if (item < primaries) {
            return members == 1;
        }
        return members <= 1 || allEqual && colour != 0;
    }

    int solve() {
        List<List<Integer>> covers = new ArrayList<>();
        for (int mask = 0; mask < 1 << options.size(); mask++) {
            if (isCover(mask)) {
                covers.add(listOf(mask));
            }
        }
        covers.sort(PlainCover::compareLists);
        count = covers.size();
        stored = new ArrayList<>(covers.subList(0, Math.min(count, 64)));
        valid = true;
        return count;
    }

    int solutionCount() {
        return valid ? count : -1;
    }

    int solutionSize(int k) {
        return !valid || k < 0 || k >= stored.size() ? -1 : stored.get(k).size();
    }

    int solutionOption(int k, int j) {
        return solutionSize(k) == -1 || j < 0 || j >= solutionSize(k) ? -1 : stored.get(k).get(j);
    }

    /** The colour that the entries give the item, or -1 if they don't have it. */
    private static int colourIn(List<int[]> entries, int item) {
        for (int[] entry : entries) {
            if (entry[0] == item) {
                return entry[1];
            }
        }
        return -1;
    }

    private static List<Integer> listOf(int mask) {
        List<Integer> list = new ArrayList<>();
        for (int opt = 0; opt < 16; opt++) {
            if ((mask & 1 << opt) != 0) {
                list.add(opt);
            }
        }
        return list;
    }

    private static int compareLists(List<Integer> one, List<Integer> other) {
        for (int at = 0; at < one.size() && at < other.size(); at++) {
            if (!one.get(at).equals(other.get(at))) {
                return one.get(at) - other.get(at);
            }
        }
        return one.size() - other.size();
    }
}
