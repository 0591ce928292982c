/** Promises 1, 6 and 7: the clamped sizes, the state at the start, and sizes that never change. */
public final class ConstructionTest {
    public static void main(String[] args) {
        smallValues();
        oddValues();
        startsEmpty();
        sizesStay();
        Check.finish();
    }

    private static void smallValues() {
        for (int p = -3; p <= 20; p++) {
            for (int s = -3; s <= 20; s++) {
                sizes(p, s);
            }
        }
    }

    private static void oddValues() {
        for (int odd : Check.ODD_INTS) {
            for (int other : Check.ODD_INTS) {
                sizes(odd, other);
            }
            sizes(odd, 3);
            sizes(3, odd);
        }
    }

    private static void sizes(int p, int s) {
        ColorCover x = new ColorCover(p, s);
        String made = "new ColorCover(" + p + ", " + s + ").";
        Check.due(made + "primaryCount()", x.primaryCount(), p < 1 ? 1 : p > 12 ? 12 : p);
        Check.due(made + "secondaryCount()", x.secondaryCount(), s < 0 ? 0 : s > 8 ? 8 : s);
        // The kept sizes must also be the ones that addItem goes by.
        int items = x.primaryCount() + x.secondaryCount();
        Check.due(made + "addItem(" + items + ", 0)", x.addItem(items, 0), ColorCover.ERR_ITEM);
        Check.due(made + "addItem(" + (items - 1) + ", 0)", x.addItem(items - 1, 0), ColorCover.OK);
        int lastPrimary = x.primaryCount() - 1;
        Check.due(made + "addItem(" + lastPrimary + ", 1)", x.addItem(lastPrimary, 1), ColorCover.ERR_PRIMARY_COLOUR);
    }

    private static void startsEmpty() {
        ColorCover x = new ColorCover(4, 3);
        Check.due("optionCount() at the start", x.optionCount(), 0);
        Check.due("pendingSize() at the start", x.pendingSize(), 0);
        Check.due("solutionCount() at the start", x.solutionCount(), ColorCover.NONE);
        Check.due("solutionSize(0) at the start", x.solutionSize(0), ColorCover.NONE);
        Check.due("solutionOption(0, 0) at the start", x.solutionOption(0, 0), ColorCover.NONE);
        Check.due("optionSize(0) at the start", x.optionSize(0), ColorCover.NONE);
        Check.due("optionEntry(0, 0) at the start", x.optionEntry(0, 0), ColorCover.NONE);
        Check.due("discardPending() at the start", x.discardPending(), 0);
        Check.due("endOption() at the start", x.endOption(), ColorCover.ERR_EMPTY);
    }

    private static void sizesStay() {
        ColorCover x = new ColorCover(5, 2);
        Check.option(x, 0, 0, 6, 3);
        sizesAre(x, "endOption()");
        x.solve();
        sizesAre(x, "solve()");
        Check.add(x, 4, 0);
        sizesAre(x, "addItem(4, 0)");
        x.discardPending();
        sizesAre(x, "discardPending()");
        x.clearOptions();
        sizesAre(x, "clearOptions()");
    }

    private static void sizesAre(ColorCover x, String after) {
        Check.due("primaryCount() after " + after, x.primaryCount(), 5);
        Check.due("secondaryCount() after " + after, x.secondaryCount(), 2);
    }
}
