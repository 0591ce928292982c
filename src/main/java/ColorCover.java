/** Exact cover with secondary items and colours; the promises are in DOC.md. */
public final class ColorCover {
    public static final int MIN_PRIMARY = 1;
    public static final int MAX_PRIMARY = 12;
    public static final int MIN_SECONDARY = 0;
    public static final int MAX_SECONDARY = 8;
    public static final int MAX_OPTIONS = 16;
    public static final int MAX_ENTRIES = 64;
    public static final int MAX_COLOUR = 15;
    public static final int MAX_STORED = 64;

    public static final int OK = 0;
    public static final int ERR_ITEM = -1;
    public static final int ERR_COLOUR = -2;
    public static final int ERR_PRIMARY_COLOUR = -3;
    public static final int ERR_DUPLICATE = -4;
    public static final int ERR_ENTRIES_FULL = -5;
    public static final int ERR_EMPTY = -6;
    public static final int ERR_NO_PRIMARY = -7;
    public static final int ERR_OPTIONS_FULL = -8;

    public static final int NONE = -1;

    private static final int COLOURS = MAX_COLOUR + 1;
    private static final int START_SLOTS = MAX_OPTIONS + 1;
    private static final int MAX_LISTS = 1 << MAX_OPTIONS;

    private final int primaries;
    private final int secondaries;

    // The pending entries stand right behind the closed ones, so that closing
    // an option moves no entry: it only notes where the next option starts.
    private final int[] entries = new int[MAX_ENTRIES];
    private int usedEntries = 0;

    // Slot i is the start of option i; the slot behind the last closed option
    // is the start of the pending list.
    private final int[] starts = new int[START_SLOTS];
    private int closedOptions = 0;

    // Both parts of the definition of a cover can be told from pairs of options
    // and from unions of primary items, so these two masks, made when an option
    // is closed, are all that the search looks at.
    private final int[] earlierClashes = new int[MAX_OPTIONS];
    private final int[] primaryMasks = new int[MAX_OPTIONS];

    // NONE while the results are not valid.
    private int covers = NONE;
    private final int[] storedCovers = new int[MAX_STORED];

    public ColorCover(int primaries, int secondaries) {
        this.primaries = clamped(primaries, MIN_PRIMARY, MAX_PRIMARY);
        this.secondaries = clamped(secondaries, MIN_SECONDARY, MAX_SECONDARY);
    }

    public int addItem(int item, int colour) {
        if (item < 0 || item >= primaries + secondaries) {
            return ERR_ITEM;
        }
        if (colour < 0 || colour > MAX_COLOUR) {
            return ERR_COLOUR;
        }
        if (item < primaries && colour != 0) {
            return ERR_PRIMARY_COLOUR;
        }
        if (isPending(item)) {
            return ERR_DUPLICATE;
        }
        if (usedEntries >= MAX_ENTRIES) {
            return ERR_ENTRIES_FULL;
        }
        entries[usedEntries] = item * COLOURS + colour;
        usedEntries++;
        return OK;
    }

    public int endOption() {
        if (pendingSize() == 0) {
            return ERR_EMPTY;
        }
        int primaryMask = pendingPrimaries();
        if (primaryMask == 0) {
            return ERR_NO_PRIMARY;
        }
        if (closedOptions >= MAX_OPTIONS) {
            return ERR_OPTIONS_FULL;
        }
        int opt = closedOptions;
        primaryMasks[opt] = primaryMask;
        starts[opt + 1] = usedEntries;
        earlierClashes[opt] = clashesBefore(opt);
        closedOptions = opt + 1;
        covers = NONE;
        return opt;
    }

    public int discardPending() {
        int held = pendingSize();
        usedEntries = starts[closedOptions];
        return held;
    }

    public void clearOptions() {
        closedOptions = 0;
        usedEntries = 0;
        covers = NONE;
    }

    public int primaryCount() {
        return primaries;
    }

    public int secondaryCount() {
        return secondaries;
    }

    public int optionCount() {
        return closedOptions;
    }

    public int pendingSize() {
        return usedEntries - starts[closedOptions];
    }

    public int optionSize(int opt) {
        if (opt < 0 || opt >= closedOptions) {
            return NONE;
        }
        return starts[opt + 1] - starts[opt];
    }

    public int optionEntry(int opt, int idx) {
        // No idx is both 0 or more and below NONE, so a wrong opt ends here too.
        if (idx < 0 || idx >= optionSize(opt)) {
            return NONE;
        }
        return entries[starts[opt] + idx];
    }

    public boolean isCover(int mask) {
        // This sees bit 31 as well, so a negative mask is refused.
        if ((mask >>> closedOptions) != 0) {
            return false;
        }
        return !hasClash(mask) && primariesIn(mask) == (1 << primaries) - 1;
    }

    public int solve() {
        int found = 0;
        int list = closedOptions > 0 ? 1 : 0;
        // No list comes twice, so there are fewer steps than masks.
        for (int step = 0; step < MAX_LISTS && list != 0; step++) {
            if (isCover(list)) {
                if (found < MAX_STORED) {
                    storedCovers[found] = list;
                }
                found++;
            }
            // What clashes still clashes with more options behind it.
            list = hasClash(list) ? nextWithoutGrowing(list) : nextList(list);
        }
        covers = found;
        return found;
    }

    public int solutionCount() {
        return covers;
    }

    public int solutionSize(int k) {
        // No k is both 0 or more and below NONE, so results not valid end here too.
        if (k < 0 || k >= covers || k >= MAX_STORED) {
            return NONE;
        }
        int size = 0;
        for (int opt = 0; opt < MAX_OPTIONS; opt++) {
            if (contains(storedCovers[k], opt)) {
                size++;
            }
        }
        return size;
    }

    public int solutionOption(int k, int j) {
        // No j is both 0 or more and below NONE, so a wrong k ends here too.
        if (j < 0 || j >= solutionSize(k)) {
            return NONE;
        }
        int position = 0;
        for (int opt = 0; opt < MAX_OPTIONS; opt++) {
            if (contains(storedCovers[k], opt)) {
                if (position == j) {
                    return opt;
                }
                position++;
            }
        }
        return NONE;
    }

    private static int clamped(int value, int least, int greatest) {
        if (value < least) {
            return least;
        }
        return value > greatest ? greatest : value;
    }

    private static boolean contains(int mask, int opt) {
        return ((mask >>> opt) & 1) != 0;
    }

    private boolean isPending(int item) {
        for (int at = starts[closedOptions]; at < usedEntries; at++) {
            if (entries[at] / COLOURS == item) {
                return true;
            }
        }
        return false;
    }

    private int pendingPrimaries() {
        int mask = 0;
        for (int at = starts[closedOptions]; at < usedEntries; at++) {
            int item = entries[at] / COLOURS;
            if (item < primaries) {
                mask |= 1 << item;
            }
        }
        return mask;
    }

    private int clashesBefore(int opt) {
        int mask = 0;
        for (int earlier = 0; earlier < opt; earlier++) {
            if (optionsClash(earlier, opt)) {
                mask |= 1 << earlier;
            }
        }
        return mask;
    }

    private boolean optionsClash(int one, int other) {
        for (int at = starts[one]; at < starts[one + 1]; at++) {
            for (int by = starts[other]; by < starts[other + 1]; by++) {
                if (entriesClash(entries[at], entries[by])) {
                    return true;
                }
            }
        }
        return false;
    }

    // A primary item always has colour 0, so one rule serves both kinds: an item
    // is shared only in one and the same colour that is not 0.
    private static boolean entriesClash(int one, int other) {
        if (one / COLOURS != other / COLOURS) {
            return false;
        }
        return one != other || one % COLOURS == 0;
    }

    private boolean hasClash(int mask) {
        for (int opt = 0; opt < closedOptions; opt++) {
            if (contains(mask, opt) && (earlierClashes[opt] & mask) != 0) {
                return true;
            }
        }
        return false;
    }

    private int primariesIn(int mask) {
        int covered = 0;
        for (int opt = 0; opt < closedOptions; opt++) {
            if (contains(mask, opt)) {
                covered |= primaryMasks[opt];
            }
        }
        return covered;
    }

    // The ascending lists in their order: a list comes right before those that
    // it begins, so the next one is the list with the smallest option appended.
    private int nextList(int list) {
        int last = lastOption(list);
        if (last + 1 < closedOptions) {
            return list | (1 << (last + 1));
        }
        return nextWithoutGrowing(list);
    }

    // The first list in the order that this one does not begin; 0 if none is left.
    private int nextWithoutGrowing(int list) {
        int last = lastOption(list);
        if (last + 1 < closedOptions) {
            return movedOn(list, last);
        }
        int shorter = list & ~(1 << last);
        int before = lastOption(shorter);
        return before == NONE ? 0 : movedOn(shorter, before);
    }

    private static int movedOn(int list, int last) {
        return (list & ~(1 << last)) | (1 << (last + 1));
    }

    private static int lastOption(int list) {
        for (int opt = MAX_OPTIONS - 1; opt >= 0; opt--) {
            if (contains(list, opt)) {
                return opt;
            }
        }
        return NONE;
    }
}
