/** Promises 3, 5, 8, 10 and 11: endOption, clearOptions, optionCount, optionSize and optionEntry. */
public final class OptionsTest {
    public static void main(String[] args) {
        numbersOptions();
        refusesEmpty();
        refusesWithoutPrimary();
        refusesWhenFull();
        refusalKeepsResults();
        successEndsResults();
        clears();
        wrongIndices();
        Check.finish();
    }

    private static void refused(ColorCover x, int answer) {
        String before = Check.seen(x);
        Check.due("endOption()", x.endOption(), answer);
        Check.due("what is seen after endOption()", Check.seen(x), before);
    }

    private static void numbersOptions() {
        ColorCover x = new ColorCover(3, 2);
        Check.option(x, 4, 15, 0, 0, 3, 0);
        Check.due("pendingSize()", x.pendingSize(), 0);
        Check.due("optionCount()", x.optionCount(), 1);
        Check.option(x, 2, 0);
        Check.option(x, 1, 0, 3, 2, 2, 0, 4, 1, 0, 0);
        Check.due("optionCount()", x.optionCount(), 3);
        Check.due("optionSize(0)", x.optionSize(0), 3);
        Check.due("optionSize(1)", x.optionSize(1), 1);
        Check.due("optionSize(2)", x.optionSize(2), 5);
        Check.due("option 0", Check.entries(x, 0), "4/15 0/0 3/0");
        Check.due("option 1", Check.entries(x, 1), "2/0");
        Check.due("option 2", Check.entries(x, 2), "1/0 3/2 2/0 4/1 0/0");
        Check.due("optionEntry(0, 0)", x.optionEntry(0, 0), 79);
        Check.due("optionEntry(2, 1)", x.optionEntry(2, 1), 50);
    }

    private static void refusesEmpty() {
        ColorCover x = new ColorCover(3, 2);
        refused(x, ColorCover.ERR_EMPTY);
        Check.option(x, 0, 0);
        refused(x, ColorCover.ERR_EMPTY);
    }

    private static void refusesWithoutPrimary() {
        ColorCover x = new ColorCover(3, 2);
        Check.add(x, 3, 0);
        refused(x, ColorCover.ERR_NO_PRIMARY);
        Check.add(x, 4, 5);
        refused(x, ColorCover.ERR_NO_PRIMARY);
        // The refused list is kept, so a primary item makes an option of it.
        Check.add(x, 2, 0);
        Check.due("endOption()", x.endOption(), 0);
        Check.due("option 0", Check.entries(x, 0), "3/0 4/5 2/0");
    }

    private static void refusesWhenFull() {
        ColorCover x = new ColorCover(3, 2);
        for (int opt = 0; opt < 16; opt++) {
            Check.option(x, opt % 3, 0, 3, opt);
            Check.due("optionCount()", x.optionCount(), opt + 1);
        }
        refused(x, ColorCover.ERR_EMPTY);
        Check.add(x, 4, 0);
        refused(x, ColorCover.ERR_NO_PRIMARY);
        Check.add(x, 1, 0);
        refused(x, ColorCover.ERR_OPTIONS_FULL);
        Check.due("solve()", x.solve(), 0);
        refused(x, ColorCover.ERR_OPTIONS_FULL);
        Check.due("pendingSize()", x.pendingSize(), 2);
        Check.due("option 15", Check.entries(x, 15), "0/0 3/15");
        Check.due("discardPending()", x.discardPending(), 2);
    }

    private static void refusalKeepsResults() {
        ColorCover x = new ColorCover(1, 1);
        Check.option(x, 0, 0);
        Check.option(x, 0, 0, 1, 1);
        Check.due("solve()", x.solve(), 2);
        refused(x, ColorCover.ERR_EMPTY);
        Check.add(x, 1, 1);
        refused(x, ColorCover.ERR_NO_PRIMARY);
        Check.due("solutionCount()", x.solutionCount(), 2);
        Check.due("the covers", Check.covers(x), "0 | 1");
    }

    private static void successEndsResults() {
        ColorCover x = new ColorCover(1, 1);
        Check.option(x, 0, 0);
        x.solve();
        Check.option(x, 0, 0, 1, 1);
        Check.due("solutionCount()", x.solutionCount(), ColorCover.NONE);
        Check.due("solutionSize(0)", x.solutionSize(0), ColorCover.NONE);
        Check.due("solutionOption(0, 0)", x.solutionOption(0, 0), ColorCover.NONE);
        Check.due("option 0", Check.entries(x, 0), "0/0");
    }

    private static void clears() {
        ColorCover x = new ColorCover(2, 2);
        String empty = Check.seen(x);
        x.clearOptions();
        Check.due("what is seen after clearing nothing", Check.seen(x), empty);
        for (int opt = 0; opt < 16; opt++) {
            Check.option(x, 0, 0, 1, 0, 2, opt);
        }
        Check.add(x, 0, 0, 3, 1);
        Check.due("solve()", x.solve(), 16);
        x.clearOptions();
        Check.due("what is seen after clearing all", Check.seen(x), empty);
        Check.due("isCover(1)", x.isCover(1), false);
        Check.due("endOption()", x.endOption(), ColorCover.ERR_EMPTY);
        // Nothing of the old options may show through the new ones.
        Check.option(x, 1, 0);
        Check.option(x, 0, 0);
        Check.due("option 0", Check.entries(x, 0), "1/0");
        Check.due("option 1", Check.entries(x, 1), "0/0");
        Check.due("solve()", x.solve(), 1);
        Check.due("the covers", Check.covers(x), "0 1");
        Check.add(x, 0, 0);
        x.clearOptions();
        Check.due("what is seen after clearing again", Check.seen(x), empty);
    }

    private static void wrongIndices() {
        ColorCover x = new ColorCover(2, 2);
        Check.option(x, 0, 0, 3, 2);
        Check.option(x, 1, 0);
        Check.add(x, 0, 0);
        String before = Check.seen(x);
        for (int odd : Check.ODD_INTS) {
            Check.due("optionSize(" + odd + ")", x.optionSize(odd), ColorCover.NONE);
            Check.due("optionEntry(" + odd + ", 0)", x.optionEntry(odd, 0), ColorCover.NONE);
            Check.due("optionEntry(0, " + odd + ")", x.optionEntry(0, odd), ColorCover.NONE);
            Check.due("optionEntry(" + odd + ", " + odd + ")", x.optionEntry(odd, odd), ColorCover.NONE);
        }
        Check.due("optionSize(2), the pending one", x.optionSize(2), ColorCover.NONE);
        Check.due("optionEntry(2, 0), a pending one", x.optionEntry(2, 0), ColorCover.NONE);
        Check.due("optionEntry(0, 2)", x.optionEntry(0, 2), ColorCover.NONE);
        Check.due("optionEntry(1, 1)", x.optionEntry(1, 1), ColorCover.NONE);
        Check.due("what is seen after reading", Check.seen(x), before);
    }
}
