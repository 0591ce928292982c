/** Promise 9: pendingSize. */
public final class Promise09Test {
    public static void main(String[] args) {
        Check.sentence("`pendingSize()` answers the number of entries in the pending list",
            Promise09Test::answersTheNumber);
        Check.sentence("a value in 0..20", Promise09Test::fromZeroToTwenty);
        Check.sentence("It changes nothing.", () -> Check.changesNothing("pendingSize()", ColorCover::pendingSize));
        Check.finish();
    }

    /** Closed entries do not count, nor do refused ones. */
    private static void answersTheNumber() {
        ColorCover x = new ColorCover(2, 1);
        Check.due("pendingSize()", x.pendingSize(), 0);
        Check.add(x, 2, 3);
        Check.due("pendingSize() after addItem", x.pendingSize(), 1);
        x.addItem(2, 4);
        x.addItem(3, 0);
        x.endOption();
        x.solve();
        Check.due("pendingSize() after refused calls and solve()", x.pendingSize(), 1);
        Check.add(x, 0, 0);
        Check.due("pendingSize() after addItem", x.pendingSize(), 2);
        Check.close(x);
        Check.due("pendingSize() after endOption()", x.pendingSize(), 0);
        Check.add(x, 1, 0);
        Check.due("pendingSize() after addItem", x.pendingSize(), 1);
        x.discardPending();
        Check.due("pendingSize() after discardPending()", x.pendingSize(), 0);
        Check.add(x, 1, 0);
        x.clearOptions();
        Check.due("pendingSize() after clearOptions()", x.pendingSize(), 0);
        Check.due("pendingSize() with 64 entries closed", State.ENTRIES_FULL.make().pendingSize(), 0);
        Check.due("pendingSize() with 64 entries", State.ENTRIES_FULL_WITH_PENDING.make().pendingSize(), 4);
        Check.due("pendingSize() with all full", State.ENTRIES_AND_OPTIONS_FULL.make().pendingSize(), 16);
    }

    private static void fromZeroToTwenty() {
        ColorCover x = new ColorCover(Integer.MAX_VALUE, Integer.MAX_VALUE);
        for (int item = 0; item < 40; item++) {
            x.addItem(item, 0);
            Check.due("pendingSize()", x.pendingSize(), item < 20 ? item + 1 : 20);
        }
        ColorCover smallest = new ColorCover(Integer.MIN_VALUE, Integer.MIN_VALUE);
        for (int item = 0; item < 40; item++) {
            smallest.addItem(item, 0);
            Check.due("pendingSize() of the smallest", smallest.pendingSize(), 1);
        }
    }
}
