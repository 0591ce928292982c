/** Promise 1: construction and the initial state. */
public final class Promise01Test {
    public static void main(String[] args) {
        Check.sentence("`ColorCover(int primaries, int secondaries)` accepts every pair of `int` values.",
            Promise01Test::everyPair);
        Check.sentence("P is `primaries` clamped into 1..12: a value below 1 becomes 1",
            Promise01Test::primariesTooSmall);
        Check.sentence("P is `primaries` clamped into 1..12: a value above 12 becomes 12",
            Promise01Test::primariesTooLarge);
        Check.sentence("P is `primaries` clamped into 1..12: any other value is kept",
            Promise01Test::primariesKept);
        Check.sentence("S is `secondaries` clamped into 0..8: a value below 0 becomes 0",
            Promise01Test::secondariesTooSmall);
        Check.sentence("S is `secondaries` clamped into 0..8: a value above 8 becomes 8",
            Promise01Test::secondariesTooLarge);
        Check.sentence("S is `secondaries` clamped into 0..8: any other value is kept",
            Promise01Test::secondariesKept);
        Check.sentence("The object starts with no closed options (`optionCount()` is 0).",
            Promise01Test::startsWithoutOptions);
        Check.sentence("It starts with an empty pending list (`pendingSize()` is 0).",
            Promise01Test::startsWithEmptyPending);
        Check.sentence("The results start not valid (`solutionCount()` is `NONE`).",
            Promise01Test::startsWithoutResults);
        Check.sentence("P and S never change afterwards.", Promise01Test::sizesStay);
        Check.finish();
    }

    /** The object must have these sizes, and addItem must go by them. */
    private static void sizesOf(int primaries, int secondaries, int p, int s) {
        ColorCover x = new ColorCover(primaries, secondaries);
        String made = "new ColorCover(" + primaries + ", " + secondaries + ").";
        Check.due(made + "primaryCount()", x.primaryCount(), p);
        Check.due(made + "secondaryCount()", x.secondaryCount(), s);
        Check.due(made + "addItem(" + (p + s) + ", 0)", x.addItem(p + s, 0), ColorCover.ERR_ITEM);
        Check.due(made + "addItem(" + (p + s - 1) + ", 0)", x.addItem(p + s - 1, 0), ColorCover.OK);
        Check.due(made + "addItem(" + (p - 1) + ", 1)", x.addItem(p - 1, 1), ColorCover.ERR_PRIMARY_COLOUR);
        if (s > 1) {
            Check.due(made + "addItem(" + p + ", 1)", x.addItem(p, 1), ColorCover.OK);
        }
    }

    private static void everyPair() {
        for (int primaries : Check.EDGE_INTS) {
            for (int secondaries : Check.EDGE_INTS) {
                int p = primaries < 1 ? 1 : primaries > 12 ? 12 : primaries;
                int s = secondaries < 0 ? 0 : secondaries > 8 ? 8 : secondaries;
                sizesOf(primaries, secondaries, p, s);
            }
        }
    }

    private static void primariesTooSmall() {
        for (int primaries : Check.EDGE_INTS) {
            if (primaries < 1) {
                sizesOf(primaries, 3, 1, 3);
            }
        }
    }

    private static void primariesTooLarge() {
        for (int primaries : Check.EDGE_INTS) {
            if (primaries > 12) {
                sizesOf(primaries, 3, 12, 3);
            }
        }
    }

    private static void primariesKept() {
        for (int primaries = 1; primaries <= 12; primaries++) {
            sizesOf(primaries, 3, primaries, 3);
        }
    }

    private static void secondariesTooSmall() {
        for (int secondaries : Check.EDGE_INTS) {
            if (secondaries < 0) {
                sizesOf(3, secondaries, 3, 0);
            }
        }
    }

    private static void secondariesTooLarge() {
        for (int secondaries : Check.EDGE_INTS) {
            if (secondaries > 8) {
                sizesOf(3, secondaries, 3, 8);
            }
        }
    }

    private static void secondariesKept() {
        for (int secondaries = 0; secondaries <= 8; secondaries++) {
            sizesOf(3, secondaries, 3, secondaries);
        }
    }

    private static void startsWithoutOptions() {
        ColorCover x = new ColorCover(4, 3);
        Check.due("optionCount()", x.optionCount(), 0);
        Check.due("optionSize(0)", x.optionSize(0), ColorCover.NONE);
        Check.due("optionEntry(0, 0)", x.optionEntry(0, 0), ColorCover.NONE);
        Check.option(x, 0, 0);
    }

    private static void startsWithEmptyPending() {
        ColorCover x = new ColorCover(4, 3);
        Check.due("pendingSize()", x.pendingSize(), 0);
        Check.due("endOption()", x.endOption(), ColorCover.ERR_EMPTY);
        Check.due("discardPending()", x.discardPending(), 0);
        Check.addRange(x, 0, 6);
    }

    private static void startsWithoutResults() {
        ColorCover x = new ColorCover(4, 3);
        Check.due("solutionCount()", x.solutionCount(), ColorCover.NONE);
        Check.due("solutionSize(0)", x.solutionSize(0), ColorCover.NONE);
        Check.due("solutionOption(0, 0)", x.solutionOption(0, 0), ColorCover.NONE);
    }

    private static void sizesStay() {
        for (State state : State.values()) {
            ColorCover x = state.make();
            Check.due("the sizes in the state " + state, Check.sizes(x), state.sizes());
            x.addItem(0, 0);
            x.addItem(-1, 0);
            x.endOption();
            x.endOption();
            x.addItem(0, 0);
            x.discardPending();
            x.solve();
            Check.due("the sizes after more calls in the state " + state, Check.sizes(x), state.sizes());
            x.clearOptions();
            Check.due("the sizes after clearOptions() in the state " + state, Check.sizes(x), state.sizes());
        }
    }
}
