/** Promises 2, 4 and 9: addItem, discardPending and pendingSize. */
public final class PendingTest {
    public static void main(String[] args) {
        takesEveryItemAndColour();
        refusesWrongItems();
        refusesWrongColours();
        refusesColouredPrimaries();
        refusesDuplicates();
        refusesWhenFull();
        examinesInOrder();
        leavesOptionsAndResults();
        holdsTwenty();
        discards();
        Check.finish();
    }

    private static void refused(ColorCover x, int item, int colour, int answer) {
        String before = Check.seen(x);
        String call = "addItem(" + item + ", " + colour + ")";
        Check.due(call, x.addItem(item, colour), answer);
        Check.due("what is seen after " + call, Check.seen(x), before);
    }

    private static void takesEveryItemAndColour() {
        for (int item = 0; item < 20; item++) {
            for (int colour = 0; colour <= (item < 12 ? 0 : 15); colour++) {
                ColorCover x = new ColorCover(12, 8);
                Check.add(x, item, colour);
                Check.due("pendingSize()", x.pendingSize(), 1);
                int primary = item == 0 ? 1 : 0;
                Check.add(x, primary, 0);
                Check.due("pendingSize()", x.pendingSize(), 2);
                Check.due("endOption()", x.endOption(), 0);
                Check.due("the entries", Check.entries(x, 0), item + "/" + colour + " " + primary + "/0");
            }
        }
    }

    private static void refusesWrongItems() {
        ColorCover x = new ColorCover(2, 3);
        for (int odd : Check.ODD_INTS) {
            refused(x, odd, 0, ColorCover.ERR_ITEM);
        }
        refused(x, 5, 0, ColorCover.ERR_ITEM);
        ColorCover bare = new ColorCover(2, 0);
        refused(bare, 2, 1, ColorCover.ERR_ITEM);
    }

    private static void refusesWrongColours() {
        ColorCover x = new ColorCover(2, 3);
        for (int item = 0; item < 5; item++) {
            for (int odd : Check.ODD_INTS) {
                refused(x, item, odd, ColorCover.ERR_COLOUR);
            }
            refused(x, item, 16, ColorCover.ERR_COLOUR);
        }
    }

    private static void refusesColouredPrimaries() {
        ColorCover x = new ColorCover(2, 3);
        for (int colour = 1; colour <= 15; colour++) {
            refused(x, 0, colour, ColorCover.ERR_PRIMARY_COLOUR);
            refused(x, 1, colour, ColorCover.ERR_PRIMARY_COLOUR);
        }
    }

    private static void refusesDuplicates() {
        ColorCover x = new ColorCover(2, 3);
        Check.add(x, 2, 7, 1, 0, 4, 0);
        refused(x, 1, 0, ColorCover.ERR_DUPLICATE);
        for (int colour = 0; colour <= 15; colour++) {
            refused(x, 2, colour, ColorCover.ERR_DUPLICATE);
            refused(x, 4, colour, ColorCover.ERR_DUPLICATE);
        }
        Check.due("endOption()", x.endOption(), 0);
        Check.due("the entries", Check.entries(x, 0), "2/7 1/0 4/0");
        // An item of a closed option is no duplicate, nor is one that was discarded.
        Check.add(x, 2, 7);
        x.discardPending();
        Check.add(x, 2, 7, 1, 0, 4, 0);
    }

    private static void refusesWhenFull() {
        ColorCover x = new ColorCover(12, 8);
        closeTwenty(x);
        closeTwenty(x);
        closeTwenty(x);
        Check.add(x, 0, 0, 1, 0, 12, 1, 13, 2);
        refused(x, 2, 0, ColorCover.ERR_ENTRIES_FULL);
        refused(x, 14, 3, ColorCover.ERR_ENTRIES_FULL);
        Check.due("discardPending()", x.discardPending(), 4);
        Check.add(x, 19, 15, 18, 0, 17, 4, 11, 0);
        refused(x, 0, 0, ColorCover.ERR_ENTRIES_FULL);
        Check.due("endOption()", x.endOption(), 3);
        Check.due("the entries", Check.entries(x, 3), "19/15 18/0 17/4 11/0");
        refused(x, 0, 0, ColorCover.ERR_ENTRIES_FULL);
        refused(x, 19, 15, ColorCover.ERR_ENTRIES_FULL);
        x.clearOptions();
        closeTwenty(x);
    }

    private static void closeTwenty(ColorCover x) {
        for (int item = 0; item < 20; item++) {
            Check.add(x, item, 0);
        }
        int next = x.optionCount();
        Check.due("endOption()", x.endOption(), next);
    }

    private static void examinesInOrder() {
        ColorCover x = new ColorCover(12, 8);
        closeTwenty(x);
        closeTwenty(x);
        closeTwenty(x);
        Check.add(x, 0, 0, 1, 0, 12, 1, 13, 2);
        // Each call below meets every later condition that it can meet as well.
        refused(x, 20, 16, ColorCover.ERR_ITEM);
        refused(x, -1, -1, ColorCover.ERR_ITEM);
        refused(x, 0, 16, ColorCover.ERR_COLOUR);
        refused(x, 0, -1, ColorCover.ERR_COLOUR);
        refused(x, 12, 16, ColorCover.ERR_COLOUR);
        refused(x, 0, 15, ColorCover.ERR_PRIMARY_COLOUR);
        refused(x, 2, 1, ColorCover.ERR_PRIMARY_COLOUR);
        refused(x, 0, 0, ColorCover.ERR_DUPLICATE);
        refused(x, 13, 0, ColorCover.ERR_DUPLICATE);
        refused(x, 2, 0, ColorCover.ERR_ENTRIES_FULL);
    }

    private static void leavesOptionsAndResults() {
        ColorCover x = new ColorCover(2, 1);
        Check.option(x, 0, 0, 2, 1);
        Check.option(x, 1, 0, 2, 1);
        Check.due("solve()", x.solve(), 1);
        String options = Check.options(x);
        String results = Check.results(x);
        Check.add(x, 1, 0, 2, 2);
        Check.due("the options after addItem", Check.options(x), options);
        Check.due("the results after addItem", Check.results(x), results);
        Check.due("isCover(3) after addItem", x.isCover(3), true);
        refused(x, 2, 2, ColorCover.ERR_DUPLICATE);
        Check.due("discardPending()", x.discardPending(), 2);
        Check.due("the options after discardPending", Check.options(x), options);
        Check.due("the results after discardPending", Check.results(x), results);
    }

    private static void holdsTwenty() {
        ColorCover x = new ColorCover(12, 8);
        for (int item = 19; item >= 0; item--) {
            Check.add(x, item, 0);
            Check.due("pendingSize()", x.pendingSize(), 20 - item);
        }
        Check.due("discardPending()", x.discardPending(), 20);
    }

    private static void discards() {
        ColorCover x = new ColorCover(3, 2);
        Check.due("discardPending() of nothing", x.discardPending(), 0);
        Check.add(x, 0, 0, 3, 5);
        Check.due("discardPending()", x.discardPending(), 2);
        Check.due("pendingSize()", x.pendingSize(), 0);
        Check.due("discardPending() again", x.discardPending(), 0);
        Check.due("endOption()", x.endOption(), ColorCover.ERR_EMPTY);
        Check.option(x, 1, 0);
        Check.due("the entries", Check.entries(x, 0), "1/0");
        Check.add(x, 2, 0, 4, 9, 3, 1);
        Check.due("discardPending()", x.discardPending(), 3);
        Check.due("the entries", Check.entries(x, 0), "1/0");
        Check.due("solutionCount()", x.solutionCount(), ColorCover.NONE);
    }
}
