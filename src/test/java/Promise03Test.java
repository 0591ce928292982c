/** Promise 3: endOption closes the pending list as an option. */
public final class Promise03Test {
    public static void main(String[] args) {
        Check.sentence("`endOption()` examines these conditions in this order"
            + " and answers with the first one that applies", Promise03Test::examinesInOrder);
        Check.sentence("If the pending list is empty, the answer is `ERR_EMPTY`.", Promise03Test::empty);
        Check.sentence("If no entry of the pending list has a primary item, the answer is `ERR_NO_PRIMARY`.",
            Promise03Test::noPrimary);
        Check.sentence("If 16 options are already closed, the answer is `ERR_OPTIONS_FULL`.",
            Promise03Test::optionsFull);
        Check.sentence("A refused call changes nothing.", Promise03Test::refusedChangesNothing);
        Check.sentence("In particular, the pending list stays as it was", Promise03Test::refusedKeepsPending);
        Check.sentence("In particular, the results keep their validity and contents.",
            Promise03Test::refusedKeepsResults);
        Check.sentence("The new option gets number n, the number of options closed before.",
            Promise03Test::numbersOptions);
        Check.sentence("The option keeps its entries in the order they were added.", Promise03Test::keepsEntries);
        Check.sentence("The pending list becomes empty.", Promise03Test::pendingBecomesEmpty);
        Check.sentence("`optionCount()` grows by one.", Promise03Test::countGrows);
        Check.sentence("The results become not valid.", Promise03Test::resultsEnd);
        Check.sentence("The answer is n, which is in 0..15.", Promise03Test::answersUpToFifteen);
        Check.sentence("The options closed earlier keep their numbers and entries.", Promise03Test::earlierStay);
        Check.sentence("P and S are unchanged.", Promise03Test::sizesStay);
        Check.finish();
    }

    private static void refused(ColorCover x, String state, int answer) {
        Check.due("endOption() in the state " + state, x.endOption(), answer);
    }

    /** Each state meets its own condition and a later one. */
    private static void examinesInOrder() {
        refused(new ColorCover(3, 2), "empty, so without a primary item", ColorCover.ERR_EMPTY);
        ColorCover x = State.SIXTEEN_OPTIONS.make();
        refused(x, "empty, 16 closed", ColorCover.ERR_EMPTY);
        Check.add(x, 5, 1);
        refused(x, "without a primary item, 16 closed", ColorCover.ERR_NO_PRIMARY);
        Check.add(x, 0, 0);
        refused(x, "with a primary item, 16 closed", ColorCover.ERR_OPTIONS_FULL);
    }

    private static void empty() {
        ColorCover x = new ColorCover(3, 2);
        refused(x, "new", ColorCover.ERR_EMPTY);
        Check.option(x, 0, 0);
        refused(x, "just closed", ColorCover.ERR_EMPTY);
        Check.add(x, 1, 0);
        x.discardPending();
        refused(x, "discarded", ColorCover.ERR_EMPTY);
        x.addItem(5, 0);
        refused(x, "after a refused addItem", ColorCover.ERR_EMPTY);
        x.solve();
        refused(x, "solved", ColorCover.ERR_EMPTY);
        Check.add(x, 1, 0);
        x.clearOptions();
        refused(x, "cleared", ColorCover.ERR_EMPTY);
        refused(State.ENTRIES_FULL.make(), "64 entries closed", ColorCover.ERR_EMPTY);
    }

    private static void noPrimary() {
        for (int p = 1; p <= 12; p++) {
            for (int item = p; item < p + 8; item++) {
                ColorCover x = new ColorCover(p, 8);
                Check.add(x, item, item - p);
                refused(x, p + " primary items, " + item + " pending", ColorCover.ERR_NO_PRIMARY);
            }
        }
        ColorCover x = new ColorCover(12, 8);
        Check.addRange(x, 12, 19);
        refused(x, "all secondary items pending", ColorCover.ERR_NO_PRIMARY);
        // One primary item is enough, wherever it stands: the first of them, the last, and each between.
        for (int item = 0; item < 12; item++) {
            Check.option(new ColorCover(12, 8), 12, 1, item, 0, 19, 0);
            Check.option(new ColorCover(12, 8), item, 0, 12, 1);
            Check.option(new ColorCover(12, 8), 12, 1, item, 0);
            Check.option(new ColorCover(12, 8), item, 0);
        }
        // A primary item of the last option does not count for the next one.
        Check.close(addPrimary(x));
        Check.add(x, 12, 0);
        refused(x, "an option with a primary item closed before", ColorCover.ERR_NO_PRIMARY);
    }

    private static ColorCover addPrimary(ColorCover x) {
        Check.add(x, 11, 0);
        return x;
    }

    private static void optionsFull() {
        ColorCover x = new ColorCover(12, 8);
        for (int opt = 0; opt < 15; opt++) {
            Check.option(x, opt % 12, 0);
        }
        Check.due("endOption() with 15 closed", addPrimary(x).endOption(), 15);
        refused(addPrimary(x), "16 closed", ColorCover.ERR_OPTIONS_FULL);
        refused(x, "16 closed, again", ColorCover.ERR_OPTIONS_FULL);
        x.discardPending();
        Check.addRange(x, 0, 19);
        refused(x, "16 closed, all items pending", ColorCover.ERR_OPTIONS_FULL);
        refused(State.ENTRIES_AND_OPTIONS_FULL.make(), "16 closed, 64 entries", ColorCover.ERR_OPTIONS_FULL);
        x.clearOptions();
        Check.close(addPrimary(x));
    }

    private static void refusedChangesNothing() {
        int refusals = 0;
        for (State state : State.values()) {
            ColorCover x = state.make();
            if (x.endOption() < 0) {
                refusals++;
                Check.same("after endOption() in the state " + state, x, state.plain());
            }
        }
        Check.due("states in which endOption() is refused were met", refusals >= 12, true);
    }

    private static void refusedKeepsPending() {
        ColorCover x = new ColorCover(3, 2);
        Check.add(x, 4, 5, 3, 0);
        refused(x, "without a primary item", ColorCover.ERR_NO_PRIMARY);
        Check.due("pendingSize()", x.pendingSize(), 2);
        Check.add(x, 2, 0);
        Check.close(x);
        Check.due("option 0", Check.entries(x, 0), "4/5 3/0 2/0");
        ColorCover full = State.SIXTEEN_OPTIONS_SOLVED_AND_PENDING.make();
        refused(full, "16 closed", ColorCover.ERR_OPTIONS_FULL);
        Check.due("pendingSize()", full.pendingSize(), 2);
        Check.due("addItem(5, 0)", full.addItem(5, 0), ColorCover.ERR_DUPLICATE);
        Check.due("addItem(0, 0)", full.addItem(0, 0), ColorCover.ERR_DUPLICATE);
        Check.due("discardPending()", full.discardPending(), 2);
    }

    private static void refusedKeepsResults() {
        keepsResults(State.SOLVED, ColorCover.ERR_EMPTY, 1);
        keepsResults(State.SOLVED_AND_PENDING_WITHOUT_PRIMARY, ColorCover.ERR_NO_PRIMARY, 1);
        keepsResults(State.SIXTEEN_OPTIONS_SOLVED, ColorCover.ERR_EMPTY, 324);
        keepsResults(State.SIXTEEN_OPTIONS_SOLVED_AND_PENDING, ColorCover.ERR_OPTIONS_FULL, 324);
        keepsResults(State.SOLVED_WITHOUT_COVERS, ColorCover.ERR_EMPTY, 0);
        keepsResults(State.NOT_SOLVED, ColorCover.ERR_EMPTY, ColorCover.NONE);
        keepsResults(State.PENDING_WITHOUT_PRIMARY, ColorCover.ERR_NO_PRIMARY, ColorCover.NONE);
    }

    private static void keepsResults(State state, int answer, int count) {
        ColorCover x = state.make();
        String before = Check.results(x);
        refused(x, state.name(), answer);
        Check.due("solutionCount() in the state " + state, x.solutionCount(), count);
        Check.due("the results in the state " + state, Check.results(x), before);
    }

    private static void numbersOptions() {
        ColorCover x = new ColorCover(12, 8);
        for (int opt = 0; opt < 16; opt++) {
            Check.due("endOption()", addPrimary(x).endOption(), opt);
            Check.due("optionSize(" + opt + ")", x.optionSize(opt), 1);
            // A refused call takes no number.
            refused(x, "empty", ColorCover.ERR_EMPTY);
        }
    }

    private static void keepsEntries() {
        ColorCover x = new ColorCover(12, 8);
        Check.addRange(x, 0, 19);
        Check.close(x);
        for (int item = 19; item >= 0; item--) {
            Check.add(x, item, item < 12 ? 0 : item - 4);
        }
        Check.close(x);
        Check.option(x, 7, 0);
        for (int idx = 0; idx < 20; idx++) {
            Check.due("optionEntry(0, " + idx + ")", x.optionEntry(0, idx), idx * 16);
            int item = 19 - idx;
            Check.due("optionEntry(1, " + idx + ")", x.optionEntry(1, idx), item * 16 + (item < 12 ? 0 : item - 4));
        }
        Check.due("option 2", Check.entries(x, 2), "7/0");
    }

    private static void pendingBecomesEmpty() {
        ColorCover x = State.PENDING_ALL_ITEMS.make();
        Check.close(x);
        Check.due("pendingSize()", x.pendingSize(), 0);
        Check.due("discardPending()", x.discardPending(), 0);
        refused(x, "just closed", ColorCover.ERR_EMPTY);
        Check.addRange(x, 0, 19);
    }

    private static void countGrows() {
        ColorCover x = new ColorCover(12, 8);
        for (int opt = 0; opt < 16; opt++) {
            Check.due("endOption()", addPrimary(x).endOption(), opt);
            Check.due("optionCount()", x.optionCount(), opt + 1);
        }
    }

    private static void resultsEnd() {
        ColorCover x = State.SOLVED_AND_PENDING.make();
        Check.due("solutionCount()", x.solutionCount(), 1);
        Check.close(x);
        Check.due("solutionCount()", x.solutionCount(), ColorCover.NONE);
        Check.due("solutionSize(0)", x.solutionSize(0), ColorCover.NONE);
        Check.due("solutionOption(0, 0)", x.solutionOption(0, 0), ColorCover.NONE);
        // Also where there was nothing to find, and where they were not valid already.
        ColorCover bare = State.SOLVED_NOTHING_AND_PENDING.make();
        Check.due("solutionCount()", bare.solutionCount(), 0);
        Check.close(bare);
        Check.due("solutionCount()", bare.solutionCount(), ColorCover.NONE);
        Check.option(bare, 1, 0);
        Check.due("solutionCount()", bare.solutionCount(), ColorCover.NONE);
    }

    private static void answersUpToFifteen() {
        ColorCover x = new ColorCover(1, 0);
        for (int opt = 0; opt < 40; opt++) {
            x.addItem(0, 0);
            Check.due("endOption()", x.endOption(), opt < 16 ? opt : ColorCover.ERR_OPTIONS_FULL);
        }
    }

    private static void earlierStay() {
        ColorCover x = new ColorCover(12, 8);
        String all = "";
        for (int opt = 0; opt < 16; opt++) {
            Check.option(x, opt % 12, 0, 12 + opt % 8, opt, 12 + (opt + 1) % 8, 15 - opt);
            all += opt % 12 + "/0 " + (12 + opt % 8) + "/" + opt + " " + (12 + (opt + 1) % 8) + "/" + (15 - opt) + ";";
            String found = "";
            for (int earlier = 0; earlier <= opt; earlier++) {
                found += Check.entries(x, earlier) + ";";
            }
            Check.due("the options after endOption()", found, all);
        }
    }

    private static void sizesStay() {
        for (State state : State.values()) {
            ColorCover x = state.make();
            x.addItem(0, 0);
            x.endOption();
            Check.due("the sizes in the state " + state, Check.sizes(x), state.sizes());
        }
    }
}
