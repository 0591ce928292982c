/** Promise 5: clearOptions removes all options. */
public final class Promise05Test {
    public static void main(String[] args) {
        Check.sentence("`clearOptions()` always works", Promise05Test::alwaysWorks);
        Check.sentence("It removes all closed options, so `optionCount()` becomes 0.", Promise05Test::removesOptions);
        Check.sentence("It empties the pending list.", Promise05Test::emptiesPending);
        Check.sentence("The results become not valid, even if they already were not valid.",
            Promise05Test::resultsEnd);
        Check.sentence("P and S are unchanged.", Promise05Test::sizesStay);
        Check.sentence("Option numbering starts again at 0 for the next successful `endOption()`.",
            Promise05Test::numbersFromZero);
        Check.finish();
    }

    /** A cleared object can't be told from a new one, even by calls that come later. */
    private static void alwaysWorks() {
        for (State state : State.values()) {
            ColorCover x = state.make();
            x.clearOptions();
            PlainCover fresh = new PlainCover(x.primaryCount(), x.secondaryCount());
            Check.sameNow("after clearOptions() in the state " + state, x, fresh);
            x.clearOptions();
            Check.same("after clearOptions() again in the state " + state, x, fresh);
        }
    }

    private static void removesOptions() {
        for (State state : State.values()) {
            ColorCover x = state.make();
            x.clearOptions();
            Check.due("optionCount() in the state " + state, x.optionCount(), 0);
            for (int opt = 0; opt < 16; opt++) {
                Check.due("optionSize(" + opt + ") in the state " + state, x.optionSize(opt), ColorCover.NONE);
                Check.due("optionEntry(" + opt + ", 0) in the state " + state,
                    x.optionEntry(opt, 0), ColorCover.NONE);
            }
            Check.due("the cover masks in the state " + state, Check.coverMasks(x), "");
            Check.due("solve() in the state " + state, x.solve(), 0);
        }
        // Their entries make room for 64 new ones.
        ColorCover x = State.ENTRIES_FULL.make();
        x.clearOptions();
        Check.optionsOfItems(x, 16, 4);
        Check.due("optionCount()", x.optionCount(), 16);
    }

    private static void emptiesPending() {
        for (State state : State.values()) {
            ColorCover x = state.make();
            x.clearOptions();
            Check.due("pendingSize() in the state " + state, x.pendingSize(), 0);
            Check.due("discardPending() in the state " + state, x.discardPending(), 0);
            Check.due("endOption() in the state " + state, x.endOption(), ColorCover.ERR_EMPTY);
            Check.addRange(x, 0, x.primaryCount() + x.secondaryCount() - 1);
        }
    }

    private static void resultsEnd() {
        for (State state : State.values()) {
            ColorCover x = state.make();
            x.clearOptions();
            Check.due("solutionCount() in the state " + state, x.solutionCount(), ColorCover.NONE);
            Check.due("solutionSize(0) in the state " + state, x.solutionSize(0), ColorCover.NONE);
            Check.due("solutionOption(0, 0) in the state " + state, x.solutionOption(0, 0), ColorCover.NONE);
            x.clearOptions();
            Check.due("solutionCount() after twice in the state " + state, x.solutionCount(), ColorCover.NONE);
        }
    }

    private static void sizesStay() {
        for (State state : State.values()) {
            ColorCover x = state.make();
            x.clearOptions();
            Check.due("the sizes in the state " + state, Check.sizes(x), state.sizes());
        }
    }

    private static void numbersFromZero() {
        for (State state : State.values()) {
            ColorCover x = state.make();
            x.clearOptions();
            for (int opt = 0; opt < 16; opt++) {
                Check.add(x, 0, 0);
                Check.due("endOption() in the state " + state, x.endOption(), opt);
            }
        }
        // Refused calls between do not count.
        ColorCover x = State.SOLVED.make();
        x.clearOptions();
        Check.due("endOption()", x.endOption(), ColorCover.ERR_EMPTY);
        Check.add(x, 2, 1);
        Check.due("endOption()", x.endOption(), ColorCover.ERR_NO_PRIMARY);
        Check.add(x, 1, 0);
        Check.due("endOption()", x.endOption(), 0);
        Check.due("option 0", Check.entries(x, 0), "2/1 1/0");
    }
}
