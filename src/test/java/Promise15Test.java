/** Promise 15: solutionSize. */
public final class Promise15Test {
    public static void main(String[] args) {
        Check.sentence("`solutionSize(int k)` answers the number of options in stored cover `k`.",
            Promise15Test::answersTheNumber);
        Check.sentence("The answer is `NONE` if the results are not valid", Promise15Test::notValid);
        Check.sentence("or if `k` is outside 0..min(count, 64)-1.", Promise15Test::outside);
        Check.sentence("Negative values count as outside.", Promise15Test::negative);
        Check.sentence("It changes nothing.", Promise15Test::changesNothing);
        Check.finish();
    }

    private static void answersTheNumber() {
        ColorCover x = new ColorCover(3, 0);
        Check.option(x, 2, 0);
        Check.option(x, 0, 0, 1, 0, 2, 0);
        Check.option(x, 1, 0);
        Check.option(x, 0, 0);
        Check.option(x, 0, 0, 1, 0);
        Check.due("solve()", x.solve(), 3);
        Check.due("solutionSize(0)", x.solutionSize(0), 3);
        Check.due("solutionSize(1)", x.solutionSize(1), 2);
        Check.due("solutionSize(2)", x.solutionSize(2), 1);
        // A cover has at most as many options as there are primary items; option 15 counts as well.
        ColorCover longest = Check.groups(2, 2, 2, 2, 1, 1, 1, 1, 1, 1, 1, 1);
        Check.due("solve()", longest.solve(), 16);
        for (int k = 0; k < 16; k++) {
            Check.due("solutionSize(" + k + ")", longest.solutionSize(k), 12);
        }
        ColorCover singles = Check.groups(16);
        Check.due("solve()", singles.solve(), 16);
        for (int k = 0; k < 16; k++) {
            Check.due("solutionSize(" + k + ")", singles.solutionSize(k), 1);
        }
    }

    private static void none(ColorCover x, int k, String state) {
        Check.due("solutionSize(" + k + ") " + state, x.solutionSize(k), ColorCover.NONE);
    }

    private static void notValid() {
        for (int k : Check.EDGE_INTS) {
            none(new ColorCover(3, 2), k, "of a new object");
            none(State.NOT_SOLVED.make(), k, "before solve()");
            none(State.NO_LONGER_SOLVED.make(), k, "with an option more");
            none(State.CLEARED.make(), k, "after clearOptions()");
        }
    }

    private static void outside() {
        outsideOf(0, 0);
        outsideOf(0, 2, 0);
        outsideOf(1, 1);
        outsideOf(63, 3, 3, 7);
        outsideOf(64, 4, 4, 4);
        // Behind the 64 stored covers there is none, though there are more covers.
        outsideOf(64, 5, 5, 5);
        outsideOf(64, 3, 3, 3, 3, 4);
        ColorCover x = Check.groups(4, 4, 4);
        Check.option(x, 0, 0, 1, 0, 2, 0);
        Check.due("solve()", x.solve(), 65);
        Check.due("solutionSize(63) of 65 covers", x.solutionSize(63), 3);
        none(x, 64, "of 65 covers");
    }

    private static void outsideOf(int stored, int... sizes) {
        ColorCover x = Check.groups(sizes);
        x.solve();
        for (int k : Check.outside(0, stored - 1)) {
            none(x, k, "with " + stored + " stored covers");
        }
        for (int k = 0; k < stored; k++) {
            Check.due("solutionSize(" + k + ")", x.solutionSize(k), sizes.length);
        }
    }

    private static void negative() {
        for (State state : State.values()) {
            ColorCover x = state.make();
            x.solve();
            for (int k : Check.EDGE_INTS) {
                if (k < 0) {
                    none(x, k, "in the state " + state + ", solved");
                }
            }
        }
    }

    private static void changesNothing() {
        Check.changesNothing("solutionSize(0)", x -> x.solutionSize(0));
        Check.changesNothing("solutionSize", x -> {
            for (int k : Check.EDGE_INTS) {
                x.solutionSize(k);
            }
        });
    }
}
