/** What the tests share: counting wrong answers, entering options, and reading all that can be seen. */
final class Check {
    static final int[] ODD_INTS = {
        Integer.MIN_VALUE, Integer.MIN_VALUE + 1, -65536, -17, -16, -2, -1, 64, 65, 65536, 1 << 30,
        Integer.MAX_VALUE - 1, Integer.MAX_VALUE
    };

    private static int wrong = 0;

    private Check() {
    }

    static void due(String call, long got, long want) {
        if (got != want) {
            wrong++;
            System.out.println(call + " answered " + got + ", due is " + want);
        }
    }

    static void due(String call, boolean got, boolean want) {
        if (got != want) {
            wrong++;
            System.out.println(call + " answered " + got + ", due is " + want);
        }
    }

    static void due(String what, String got, String want) {
        if (!got.equals(want)) {
            wrong++;
            System.out.println(what + " is\n  " + got + "\ndue is\n  " + want);
        }
    }

    static void finish() {
        System.out.println(wrong == 0 ? "all answers are as due" : wrong + " answers are not as due");
        if (wrong != 0) {
            System.exit(1);
        }
    }

    /** Adds the pairs item, colour, item, colour, ... to the pending list; each must be taken. */
    static void add(ColorCover x, int... pairs) {
        for (int i = 0; i < pairs.length; i += 2) {
            due("addItem(" + pairs[i] + ", " + pairs[i + 1] + ")", x.addItem(pairs[i], pairs[i + 1]), ColorCover.OK);
        }
    }

    /** Closes an option of the pairs item, colour, item, colour, ...; it must get the next number. */
    static void option(ColorCover x, int... pairs) {
        add(x, pairs);
        int next = x.optionCount();
        due("endOption()", x.endOption(), next);
    }

    /** All that the getters tell; two states that differ here differ to the caller. */
    static String seen(ColorCover x) {
        return x.primaryCount() + "+" + x.secondaryCount() + " pending " + x.pendingSize()
            + " options " + options(x) + " results " + results(x);
    }

    static String options(ColorCover x) {
        StringBuilder text = new StringBuilder().append(x.optionCount());
        for (int opt = -1; opt <= 16; opt++) {
            text.append(" [").append(x.optionSize(opt)).append(':');
            for (int idx = -1; idx <= 20; idx++) {
                text.append(' ').append(x.optionEntry(opt, idx));
            }
            text.append(']');
        }
        return text.toString();
    }

    static String results(ColorCover x) {
        StringBuilder text = new StringBuilder().append(x.solutionCount());
        for (int k = -1; k <= 64; k++) {
            text.append(" [").append(x.solutionSize(k)).append(':');
            for (int j = -1; j <= 16; j++) {
                text.append(' ').append(x.solutionOption(k, j));
            }
            text.append(']');
        }
        return text.toString();
    }

    /** The entries of one option as item/colour, read up to its size. */
    static String entries(ColorCover x, int opt) {
        StringBuilder text = new StringBuilder();
        for (int idx = 0; idx < x.optionSize(opt); idx++) {
            int entry = x.optionEntry(opt, idx);
            text.append(idx == 0 ? "" : " ").append(entry / 16).append('/').append(entry % 16);
        }
        return text.toString();
    }

    /** The stored covers as lists of option numbers, read until there is none. */
    static String covers(ColorCover x) {
        StringBuilder text = new StringBuilder();
        for (int k = 0; k <= 64 && x.solutionSize(k) != ColorCover.NONE; k++) {
            text.append(k == 0 ? "" : " | ");
            for (int j = 0; j < x.solutionSize(k); j++) {
                text.append(j == 0 ? "" : " ").append(x.solutionOption(k, j));
            }
        }
        return text.toString();
    }
}
