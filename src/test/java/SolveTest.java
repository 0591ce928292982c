/** Promises 13 to 16: solve, solutionCount, solutionSize and solutionOption. */
public final class SolveTest {
    public static void main(String[] args) {
        withoutOptions();
        withoutCovers();
        ordersCovers();
        ordersByListNotByMask();
        takesColours();
        storesSixtyFour();
        countsAroundSixtyFour();
        longestCover();
        widestSearch();
        ignoresPending();
        solvesAgain();
        resultsEnd();
        wrongIndices();
        Check.finish();
    }

    private static void withoutOptions() {
        ColorCover x = new ColorCover(3, 2);
        Check.due("solutionCount()", x.solutionCount(), ColorCover.NONE);
        Check.due("solve()", x.solve(), 0);
        Check.due("solutionCount()", x.solutionCount(), 0);
        Check.due("solutionSize(0)", x.solutionSize(0), ColorCover.NONE);
        Check.due("solutionOption(0, 0)", x.solutionOption(0, 0), ColorCover.NONE);
    }

    private static void withoutCovers() {
        ColorCover x = new ColorCover(2, 0);
        Check.option(x, 0, 0);
        Check.option(x, 0, 0);
        Check.due("solve()", x.solve(), 0);
        Check.due("solutionCount()", x.solutionCount(), 0);
        Check.due("solutionSize(0)", x.solutionSize(0), ColorCover.NONE);
    }

    private static void ordersCovers() {
        ColorCover x = new ColorCover(3, 0);
        Check.option(x, 2, 0);
        Check.option(x, 0, 0, 1, 0, 2, 0);
        Check.option(x, 1, 0);
        Check.option(x, 0, 0);
        Check.option(x, 0, 0, 1, 0);
        Check.option(x, 1, 0, 2, 0);
        Check.due("solve()", x.solve(), 4);
        Check.due("the covers", Check.covers(x), "0 2 3 | 0 4 | 1 | 3 5");
        Check.due("solutionSize(0)", x.solutionSize(0), 3);
        Check.due("solutionSize(2)", x.solutionSize(2), 1);
        Check.due("solutionOption(0, 2)", x.solutionOption(0, 2), 3);
        Check.due("solutionSize(4)", x.solutionSize(4), ColorCover.NONE);
    }

    private static void ordersByListNotByMask() {
        ColorCover x = new ColorCover(2, 0);
        Check.option(x, 0, 0);
        Check.option(x, 0, 0);
        Check.option(x, 1, 0);
        Check.due("solve()", x.solve(), 2);
        Check.due("the covers", Check.covers(x), "0 2 | 1 2");
        Check.option(x, 1, 0);
        Check.option(x, 0, 0, 1, 0);
        Check.option(x, 1, 0);
        // The mask of 0 5 is greater than that of 1 2, and 4 is the shortest list: neither gives the order.
        Check.due("solve()", x.solve(), 7);
        Check.due("the covers", Check.covers(x), "0 2 | 0 3 | 0 5 | 1 2 | 1 3 | 1 5 | 4");
    }

    private static void takesColours() {
        ColorCover x = new ColorCover(2, 1);
        Check.option(x, 0, 0, 2, 1);
        Check.option(x, 0, 0, 2, 0);
        Check.option(x, 0, 0);
        Check.option(x, 1, 0, 2, 1);
        Check.option(x, 1, 0, 2, 0);
        Check.option(x, 1, 0, 2, 2);
        Check.due("solve()", x.solve(), 4);
        Check.due("the covers", Check.covers(x), "0 3 | 2 3 | 2 4 | 2 5");
    }

    /** Options 2i and 2i+1 hold item i alone, so a cover picks one of each two. */
    private static ColorCover twoForEach(int primaries) {
        ColorCover x = new ColorCover(primaries, 0);
        for (int item = 0; item < primaries; item++) {
            Check.option(x, item, 0);
            Check.option(x, item, 0);
        }
        return x;
    }

    private static void storesSixtyFour() {
        ColorCover x = twoForEach(8);
        Check.due("solve()", x.solve(), 256);
        Check.due("solutionCount()", x.solutionCount(), 256);
        for (int k = 0; k < 64; k++) {
            Check.due("solutionSize(" + k + ")", x.solutionSize(k), 8);
            for (int j = 0; j < 8; j++) {
                Check.due("solutionOption(" + k + ", " + j + ")", x.solutionOption(k, j), 2 * j + (k >> (7 - j) & 1));
            }
        }
        for (int k = 64; k < 300; k++) {
            Check.due("solutionSize(" + k + ")", x.solutionSize(k), ColorCover.NONE);
            Check.due("solutionOption(" + k + ", 0)", x.solutionOption(k, 0), ColorCover.NONE);
        }
    }

    private static void countsAroundSixtyFour() {
        ColorCover x = new ColorCover(3, 0);
        for (int opt = 0; opt < 13; opt++) {
            Check.option(x, opt < 3 ? 0 : opt < 6 ? 1 : 2, 0);
        }
        Check.due("solve()", x.solve(), 63);
        Check.due("solutionSize(62)", x.solutionSize(62), 3);
        Check.due("solutionSize(63)", x.solutionSize(63), ColorCover.NONE);
        Check.option(x, 0, 0, 1, 0, 2, 0);
        Check.due("solve()", x.solve(), 64);
        Check.due("solutionSize(63)", x.solutionSize(63), 1);
        Check.due("solutionOption(63, 0)", x.solutionOption(63, 0), 13);
        Check.due("solutionSize(64)", x.solutionSize(64), ColorCover.NONE);
        Check.option(x, 0, 0, 1, 0, 2, 0);
        Check.due("solve()", x.solve(), 65);
        Check.due("solutionCount()", x.solutionCount(), 65);
        Check.due("solutionOption(63, 0)", x.solutionOption(63, 0), 13);
        Check.due("solutionSize(64)", x.solutionSize(64), ColorCover.NONE);
        Check.due("solutionOption(64, 0)", x.solutionOption(64, 0), ColorCover.NONE);
    }

    private static void longestCover() {
        ColorCover x = new ColorCover(12, 1);
        for (int item = 11; item >= 0; item--) {
            Check.option(x, item, 0, 12, 9);
        }
        Check.option(x, 0, 0);
        Check.option(x, 0, 0, 12, 8);
        Check.option(x, 0, 0, 12, 0);
        Check.option(x, 0, 0, 12, 9);
        Check.due("solve()", x.solve(), 3);
        Check.due("the covers", Check.covers(x),
            "0 1 2 3 4 5 6 7 8 9 10 11 | 0 1 2 3 4 5 6 7 8 9 10 12 | 0 1 2 3 4 5 6 7 8 9 10 15");
        Check.due("solutionOption(0, 11)", x.solutionOption(0, 11), 11);
        Check.due("solutionOption(0, 12)", x.solutionOption(0, 12), ColorCover.NONE);
    }

    /** One option for each of the twelve items and a second for the first four: very few lists begin with a clash. */
    private static void widestSearch() {
        ColorCover x = new ColorCover(12, 8);
        for (int opt = 0; opt < 16; opt++) {
            Check.option(x, opt % 12, 0, 12 + opt % 8, 1 + opt % 8);
        }
        Check.due("solve()", x.solve(), 16);
        for (int k = 0; k < 16; k++) {
            int mask = 0;
            for (int item = 0; item < 12; item++) {
                mask |= 1 << (item < 4 && (k >> (3 - item) & 1) != 0 ? item + 12 : item);
            }
            Check.due("isCover(" + mask + ")", x.isCover(mask), true);
            int position = 0;
            for (int opt = 0; opt < 16; opt++) {
                if ((mask >> opt & 1) != 0) {
                    Check.due("solutionOption(" + k + ", " + position + ")", x.solutionOption(k, position), opt);
                    position++;
                }
            }
            Check.due("solutionSize(" + k + ")", x.solutionSize(k), 12);
        }
    }

    private static void ignoresPending() {
        ColorCover x = new ColorCover(1, 1);
        Check.option(x, 0, 0);
        Check.add(x, 1, 3, 0, 0);
        String options = Check.options(x);
        Check.due("solve()", x.solve(), 1);
        Check.due("the covers", Check.covers(x), "0");
        Check.due("pendingSize()", x.pendingSize(), 2);
        Check.due("the options after solve()", Check.options(x), options);
        Check.due("endOption()", x.endOption(), 1);
        Check.due("option 1", Check.entries(x, 1), "1/3 0/0");
        Check.due("solve()", x.solve(), 2);
    }

    private static void solvesAgain() {
        ColorCover x = twoForEach(7);
        Check.due("solve()", x.solve(), 128);
        String before = Check.seen(x);
        Check.due("solve() again", x.solve(), 128);
        Check.due("what is seen after solving again", Check.seen(x), before);
        // The last results must be replaced even where the new ones are fewer.
        x.clearOptions();
        Check.due("solve() of nothing", x.solve(), 0);
        Check.due("the covers", Check.covers(x), "");
    }

    private static void resultsEnd() {
        ColorCover x = twoForEach(2);
        Check.due("solve()", x.solve(), 4);
        Check.add(x, 0, 0);
        Check.due("solutionCount() after addItem", x.solutionCount(), 4);
        Check.due("discardPending()", x.discardPending(), 1);
        Check.due("solutionCount() after discardPending", x.solutionCount(), 4);
        Check.option(x, 0, 0, 1, 0);
        resultsAreGone(x);
        Check.due("solve()", x.solve(), 5);
        Check.due("the covers", Check.covers(x), "0 2 | 0 3 | 1 2 | 1 3 | 4");
        x.clearOptions();
        resultsAreGone(x);
        x.clearOptions();
        resultsAreGone(x);
    }

    private static void resultsAreGone(ColorCover x) {
        Check.due("solutionCount()", x.solutionCount(), ColorCover.NONE);
        for (int k = -1; k <= 64; k++) {
            Check.due("solutionSize(" + k + ")", x.solutionSize(k), ColorCover.NONE);
            Check.due("solutionOption(" + k + ", 0)", x.solutionOption(k, 0), ColorCover.NONE);
        }
    }

    private static void wrongIndices() {
        ColorCover x = new ColorCover(2, 0);
        wrongIndicesIn(x);
        Check.option(x, 0, 0);
        Check.option(x, 1, 0);
        wrongIndicesIn(x);
        Check.due("solve()", x.solve(), 1);
        wrongIndicesIn(x);
        Check.due("solutionSize(1)", x.solutionSize(1), ColorCover.NONE);
        Check.due("solutionOption(1, 0)", x.solutionOption(1, 0), ColorCover.NONE);
        Check.due("solutionOption(0, 2)", x.solutionOption(0, 2), ColorCover.NONE);
        ColorCover full = twoForEach(8);
        Check.due("solve()", full.solve(), 256);
        wrongIndicesIn(full);
    }

    private static void wrongIndicesIn(ColorCover x) {
        String before = Check.seen(x);
        for (int odd : Check.ODD_INTS) {
            Check.due("solutionSize(" + odd + ")", x.solutionSize(odd), ColorCover.NONE);
            Check.due("solutionOption(" + odd + ", 0)", x.solutionOption(odd, 0), ColorCover.NONE);
            Check.due("solutionOption(0, " + odd + ")", x.solutionOption(0, odd), ColorCover.NONE);
            Check.due("solutionOption(" + odd + ", " + odd + ")", x.solutionOption(odd, odd), ColorCover.NONE);
        }
        Check.due("what is seen after reading", Check.seen(x), before);
    }
}
