/** Promise 8: optionCount. */
public final class Promise08Test {
    public static void main(String[] args) {
        Check.sentence("`optionCount()` answers the number of closed options", Promise08Test::answersTheNumber);
        Check.sentence("a value in 0..16", Promise08Test::fromZeroToSixteen);
        Check.sentence("It changes nothing.", () -> Check.changesNothing("optionCount()", ColorCover::optionCount));
        Check.finish();
    }

    /** The pending list is no closed option, and what is refused, solved or discarded closes none. */
    private static void answersTheNumber() {
        ColorCover x = new ColorCover(2, 1);
        Check.due("optionCount()", x.optionCount(), 0);
        Check.add(x, 2, 3);
        Check.due("optionCount() after addItem", x.optionCount(), 0);
        x.endOption();
        Check.due("optionCount() after a refused endOption()", x.optionCount(), 0);
        Check.add(x, 0, 0);
        Check.close(x);
        Check.due("optionCount() after endOption()", x.optionCount(), 1);
        x.solve();
        Check.due("optionCount() after solve()", x.optionCount(), 1);
        Check.add(x, 0, 0);
        x.discardPending();
        Check.due("optionCount() after discardPending()", x.optionCount(), 1);
        Check.option(x, 1, 0);
        Check.due("optionCount() after endOption()", x.optionCount(), 2);
    }

    private static void fromZeroToSixteen() {
        ColorCover x = new ColorCover(1, 0);
        for (int closed = 0; closed <= 40; closed++) {
            Check.due("optionCount()", x.optionCount(), closed < 16 ? closed : 16);
            x.addItem(0, 0);
            x.endOption();
        }
        x.clearOptions();
        Check.due("optionCount() after clearOptions()", x.optionCount(), 0);
    }
}
