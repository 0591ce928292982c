/** Promise 14: solutionCount. */
public final class Promise14Test {
    public static void main(String[] args) {
        Check.sentence("`solutionCount()` answers the count of the last `solve()` if the results are valid.",
            Promise14Test::answersTheCount);
        Check.sentence("Otherwise it answers `NONE`.", Promise14Test::none);
        Check.sentence("It changes nothing.", () -> Check.changesNothing("solutionCount()", ColorCover::solutionCount));
        Check.finish();
    }

    private static void countIs(ColorCover x, int count) {
        Check.due("solve()", x.solve(), count);
        Check.due("solutionCount()", x.solutionCount(), count);
    }

    private static void answersTheCount() {
        countIs(new ColorCover(3, 2), 0);
        countIs(Check.groups(2, 0), 0);
        countIs(Check.groups(1), 1);
        countIs(Check.groups(3, 3, 7), 63);
        countIs(Check.groups(4, 4, 4), 64);
        // The count is exact where not all covers are stored.
        countIs(Check.groups(3, 3, 3, 3, 4), 324);
        // Only the last solve() counts.
        ColorCover x = Check.groups(4, 4, 4);
        countIs(x, 64);
        Check.option(x, 0, 0, 1, 0, 2, 0);
        countIs(x, 65);
        x.clearOptions();
        countIs(x, 0);
    }

    private static void none() {
        Check.due("solutionCount() of a new object", new ColorCover(3, 2).solutionCount(), ColorCover.NONE);
        Check.due("solutionCount() before solve()", State.NOT_SOLVED.make().solutionCount(), ColorCover.NONE);
        Check.due("solutionCount() with an option more", State.NO_LONGER_SOLVED.make().solutionCount(),
            ColorCover.NONE);
        Check.due("solutionCount() after clearOptions()", State.CLEARED.make().solutionCount(), ColorCover.NONE);
        Check.due("solutionCount() with 16 options", State.SIXTEEN_OPTIONS.make().solutionCount(), ColorCover.NONE);
    }
}
