import java.util.TreeSet;
import java.util.function.Consumer;

/** What the tests share: naming sentences, counting wrong answers, entering options, and reading what can be told. */
final class Check {
    /** All from -20 to 70, and those around the powers of two, where narrowing, shifting and multiplying wrap. */
    static final int[] EDGE_INTS = edgeInts();

    private static String sentence = "";
    private static int wrong = 0;

    private Check() {
    }

    /** Runs the test of one sentence of the document; every wrong answer in it is printed under the sentence. */
    static void sentence(String words, Runnable test) {
        sentence = "\"" + words + "\": ";
        try {
            test.run();
        } catch (RuntimeException thrown) {
            wrong("a call threw " + thrown);
        }
        sentence = "";
    }

    static void due(String call, long got, long want) {
        if (got != want) {
            wrong(call + " answered " + got + ", due is " + want);
        }
    }

    static void due(String call, boolean got, boolean want) {
        if (got != want) {
            wrong(call + " answered " + got + ", due is " + want);
        }
    }

    static void due(String what, String got, String want) {
        if (!got.equals(want)) {
            wrong(what + " is\n  " + got + "\ndue is\n  " + want);
        }
    }

    private static void wrong(String what) {
        wrong++;
        System.out.println(sentence + what);
    }

    static void finish() {
        System.out.println(wrong == 0 ? "all answers are as due" : wrong + " answers are not as due");
        if (wrong != 0) {
            System.exit(1);
        }
    }

    private static int[] edgeInts() {
        TreeSet<Integer> found = new TreeSet<>();
        for (int value = -20; value <= 70; value++) {
            found.add(value);
        }
        for (int bit = 0; bit < 32; bit++) {
            for (int aside = -1; aside <= 1; aside++) {
                found.add((1 << bit) + aside);
                found.add(aside - (1 << bit));
            }
        }
        return found.stream().mapToInt(Integer::intValue).toArray();
    }

    /** The edge ints that are not in least..greatest, with the one right below and the one right above. */
    static int[] outside(int least, int greatest) {
        TreeSet<Integer> found = new TreeSet<>();
        for (int value : EDGE_INTS) {
            if (value < least || value > greatest) {
                found.add(value);
            }
        }
        found.add(least - 1);
        found.add(greatest + 1);
        return found.stream().mapToInt(Integer::intValue).toArray();
    }

    /** Adds the pairs item, colour, item, colour, ... to the pending list; each must be taken. */
    static void add(ColorCover x, int... pairs) {
        for (int i = 0; i < pairs.length; i += 2) {
            due("addItem(" + pairs[i] + ", " + pairs[i + 1] + ")", x.addItem(pairs[i], pairs[i + 1]), ColorCover.OK);
        }
    }

    /** Adds every item from first to last in colour 0; each must be taken. */
    static void addRange(ColorCover x, int first, int last) {
        for (int item = first; item <= last; item++) {
            add(x, item, 0);
        }
    }

    /** Closes an option of the pairs item, colour, item, colour, ...; it must get the next number. */
    static void option(ColorCover x, int... pairs) {
        add(x, pairs);
        close(x);
    }

    /** Closes so many options, each of the items 0 .. items-1 in colour 0. */
    static void optionsOfItems(ColorCover x, int options, int items) {
        for (int opt = 0; opt < options; opt++) {
            addRange(x, 0, items - 1);
            close(x);
        }
    }

    /** Closes the pending list; the option must get the next number. */
    static void close(ColorCover x) {
        int next = x.optionCount();
        due("endOption()", x.endOption(), next);
    }

    /** Item i is primary and has sizes[i] options that hold it alone, so there are as many covers as the product. */
    static ColorCover groups(int... sizes) {
        ColorCover x = new ColorCover(sizes.length, 0);
        for (int item = 0; item < sizes.length; item++) {
            for (int i = 0; i < sizes[item]; i++) {
                option(x, item, 0);
            }
        }
        return x;
    }

    /** Cover k of groups(sizes), as its list of option numbers. */
    static String groupsCover(int k, int... sizes) {
        String list = "";
        int behind = 0;
        for (int size : sizes) {
            behind += size;
        }
        int rest = k;
        for (int item = sizes.length - 1; item >= 0; item--) {
            behind -= sizes[item];
            list = (behind + rest % sizes[item]) + (list.isEmpty() ? "" : " ") + list;
            rest /= sizes[item];
        }
        return list;
    }

    /** In every state, the call must leave all as it was. */
    static void changesNothing(String call, Consumer<ColorCover> caller) {
        for (State state : State.values()) {
            ColorCover x = state.make();
            caller.accept(x);
            same("after " + call + " in the state " + state, x, state.plain());
        }
    }

    /**
     * All that can be told of x, now and by later calls, must be as the document has it for plain. The pending list
     * can't be read without closing it, so both are in another state afterwards.
     */
    static void same(String when, ColorCover x, PlainCover plain) {
        sameNow(when, x, plain);
        String later = "later, " + when;
        due("endOption() " + later, x.endOption(), plain.endOption());
        for (int opt = 0; opt <= 16; opt++) {
            for (int item = 0; item < 20; item++) {
                due("addItem(" + item + ", 0) " + later, x.addItem(item, 0), plain.addItem(item, 0));
            }
            due("endOption() " + later, x.endOption(), plain.endOption());
        }
        due("solve() " + later, x.solve(), plain.solve());
        sameNow(later, x, plain);
        due("discardPending() " + later, x.discardPending(), plain.discardPending());
    }

    /** The answers of all getters and of isCover, which leave x as it is. */
    static void sameNow(String when, ColorCover x, PlainCover plain) {
        due("primaryCount() " + when, x.primaryCount(), plain.primaries);
        due("secondaryCount() " + when, x.secondaryCount(), plain.secondaries);
        due("optionCount() " + when, x.optionCount(), plain.options.size());
        due("pendingSize() " + when, x.pendingSize(), plain.pending.size());
        for (int opt = -1; opt <= 16; opt++) {
            due("optionSize(" + opt + ") " + when, x.optionSize(opt), plain.optionSize(opt));
            for (int idx = -1; idx <= 20; idx++) {
                due("optionEntry(" + opt + ", " + idx + ") " + when,
                    x.optionEntry(opt, idx), plain.optionEntry(opt, idx));
            }
        }
        due("solutionCount() " + when, x.solutionCount(), plain.solutionCount());
        for (int k = -1; k <= 64; k++) {
            due("solutionSize(" + k + ") " + when, x.solutionSize(k), plain.solutionSize(k));
            for (int j = -1; j <= 16; j++) {
                due("solutionOption(" + k + ", " + j + ") " + when,
                    x.solutionOption(k, j), plain.solutionOption(k, j));
            }
        }
        int behind = 1 << plain.options.size();
        for (int mask = 0; mask < behind; mask++) {
            boolean want = plain.isCover(mask);
            // The name of the call is long to make, and there are many masks.
            if (x.isCover(mask) != want) {
                due("isCover(" + mask + ") " + when, !want, want);
            }
            if (want) {
                due("isCover(" + (mask | behind) + ") " + when, x.isCover(mask | behind), false);
            }
        }
    }

    static String sizes(ColorCover x) {
        return x.primaryCount() + "+" + x.secondaryCount();
    }

    static String results(ColorCover x) {
        StringBuilder text = new StringBuilder().append(x.solutionCount());
        for (int k = -1; k <= 64; k++) {
            text.append(" [").append(x.solutionSize(k)).append(':');
            for (int j = -1; j <= 16; j++) {
                text.append(' ').append(x.solutionOption(k, j));
            }
            text.append(']');
        }
        return text.toString();
    }

    /** The masks that isCover takes, in ascending order, with one bit more than there are options. */
    static String coverMasks(ColorCover x) {
        StringBuilder text = new StringBuilder();
        for (int mask = 0; mask < 2 << x.optionCount(); mask++) {
            if (x.isCover(mask)) {
                text.append(' ').append(mask);
            }
        }
        return text.toString();
    }

    /** The entries of one option as item/colour, read up to its size. */
    static String entries(ColorCover x, int opt) {
        StringBuilder text = new StringBuilder();
        for (int idx = 0; idx < x.optionSize(opt); idx++) {
            int entry = x.optionEntry(opt, idx);
            text.append(idx == 0 ? "" : " ").append(entry / 16).append('/').append(entry % 16);
        }
        return text.toString();
    }

    /** Stored cover k as the list of its option numbers. */
    static String cover(ColorCover x, int k) {
        StringBuilder text = new StringBuilder();
        for (int j = 0; j < x.solutionSize(k); j++) {
            text.append(j == 0 ? "" : " ").append(x.solutionOption(k, j));
        }
        return text.toString();
    }

    /** The stored covers as lists of option numbers, read until there is none. */
    static String covers(ColorCover x) {
        StringBuilder text = new StringBuilder();
        for (int k = 0; k <= 64 && x.solutionSize(k) != ColorCover.NONE; k++) {
            text.append(k == 0 ? "" : " | ").append(cover(x, k));
        }
        return text.toString();
    }
}
