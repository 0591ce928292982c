/** Promise 10: optionSize. */
public final class Promise10Test {
    public static void main(String[] args) {
        Check.sentence("`optionSize(int opt)` answers the number of entries of closed option `opt`.",
            Promise10Test::answersTheNumber);
        Check.sentence("If `opt` is outside 0..optionCount()-1, including every negative value, the answer is `NONE`.",
            Promise10Test::outside);
        Check.sentence("It changes nothing.", Promise10Test::changesNothing);
        Check.finish();
    }

    private static void answersTheNumber() {
        for (int size = 1; size <= 20; size++) {
            ColorCover x = new ColorCover(12, 8);
            Check.option(x, 0, 0, 1, 0);
            Check.addRange(x, 0, size - 1);
            Check.close(x);
            Check.option(x, 2, 0, 3, 0, 4, 0);
            Check.due("optionSize(0)", x.optionSize(0), 2);
            Check.due("optionSize(1)", x.optionSize(1), size);
            Check.due("optionSize(2)", x.optionSize(2), 3);
        }
        ColorCover full = new ColorCover(4, 0);
        Check.optionsOfItems(full, 16, 4);
        for (int opt = 0; opt < 16; opt++) {
            Check.due("optionSize(" + opt + ") of 16", full.optionSize(opt), 4);
        }
    }

    private static void outside() {
        for (State state : State.values()) {
            ColorCover x = state.make();
            for (int opt : Check.outside(0, x.optionCount() - 1)) {
                Check.due("optionSize(" + opt + ") in the state " + state, x.optionSize(opt), ColorCover.NONE);
            }
        }
        // The pending list is no option yet, nor is one that was cleared away an option still.
        ColorCover x = new ColorCover(2, 0);
        Check.option(x, 0, 0);
        Check.add(x, 1, 0);
        Check.due("optionSize(1) of the pending list", x.optionSize(1), ColorCover.NONE);
        x.clearOptions();
        Check.due("optionSize(0) after clearOptions()", x.optionSize(0), ColorCover.NONE);
    }

    private static void changesNothing() {
        Check.changesNothing("optionSize(0)", x -> x.optionSize(0));
        Check.changesNothing("optionSize", x -> {
            for (int opt : Check.EDGE_INTS) {
                x.optionSize(opt);
            }
        });
    }
}
