/** Promise 16: solutionOption. */
public final class Promise16Test {
    public static void main(String[] args) {
        Check.sentence("`solutionOption(int k, int j)` answers the option number at position `j` of stored cover `k`.",
            Promise16Test::answersTheOption);
        Check.sentence("Positions are counted from 0, and the options within a cover are listed in ascending order.",
            Promise16Test::countsFromZero);
        Check.sentence("The answer is `NONE` if `solutionSize(k)` is `NONE`", Promise16Test::coverOutside);
        Check.sentence("or if `j` is outside 0..solutionSize(k)-1.", Promise16Test::positionOutside);
        Check.sentence("Negative values count as outside.", Promise16Test::negative);
        Check.sentence("It changes nothing.", Promise16Test::changesNothing);
        Check.finish();
    }

    private static void answersTheOption() {
        int[] sizes = {3, 3, 3, 3, 4};
        ColorCover x = Check.groups(sizes);
        Check.due("solve()", x.solve(), 324);
        for (int k = 0; k < 64; k++) {
            Check.due("cover " + k, Check.cover(x, k), Check.groupsCover(k, sizes));
        }
        ColorCover singles = Check.groups(16);
        Check.due("solve()", singles.solve(), 16);
        for (int k = 0; k < 16; k++) {
            Check.due("solutionOption(" + k + ", 0)", singles.solutionOption(k, 0), k);
        }
    }

    private static void countsFromZero() {
        // Items entered backwards: the order is that of option numbers, not of items.
        ColorCover x = new ColorCover(12, 1);
        for (int item = 11; item >= 0; item--) {
            Check.option(x, item, 0, 12, 9);
        }
        for (int opt = 12; opt < 16; opt++) {
            Check.option(x, 15 - opt, 0, 12, 9);
        }
        Check.due("solve()", x.solve(), 16);
        for (int j = 0; j < 12; j++) {
            Check.due("solutionOption(0, " + j + ")", x.solutionOption(0, j), j);
            Check.due("solutionOption(15, " + j + ")", x.solutionOption(15, j), j < 8 ? j : j + 4);
        }
    }

    private static void none(ColorCover x, int k, int j, String state) {
        Check.due("solutionOption(" + k + ", " + j + ") " + state, x.solutionOption(k, j), ColorCover.NONE);
    }

    private static void coverOutside() {
        for (State state : State.values()) {
            ColorCover x = state.make();
            for (int k : Check.EDGE_INTS) {
                if (x.solutionSize(k) == ColorCover.NONE) {
                    // A cover that is not there has no positions at all, not -1 of them.
                    for (int j = -2; j <= 16; j++) {
                        none(x, k, j, "in the state " + state);
                    }
                }
            }
        }
        ColorCover x = Check.groups(3, 3, 3, 3, 4);
        none(x, 0, 0, "before solve()");
        x.solve();
        for (int k = 64; k <= 400; k++) {
            none(x, k, 0, "of 324 covers");
        }
        Check.add(x, 0, 0);
        x.clearOptions();
        none(x, 0, 0, "after clearOptions()");
    }

    private static void positionOutside() {
        for (State state : State.values()) {
            ColorCover x = state.make();
            x.solve();
            for (int k = 0; k < 64; k++) {
                int size = x.solutionSize(k);
                for (int j : Check.outside(0, size < 0 ? 0 : size - 1)) {
                    none(x, k, j, "in the state " + state + ", solved");
                }
            }
        }
        // Behind the last option of a cover stands none of the next cover's.
        ColorCover x = new ColorCover(2, 0);
        Check.option(x, 0, 0, 1, 0);
        Check.option(x, 0, 0);
        Check.option(x, 1, 0);
        Check.due("solve()", x.solve(), 2);
        none(x, 0, 1, "of 0 | 1 2");
        none(x, 1, 2, "of 0 | 1 2");
        ColorCover longest = Check.groups(1, 1, 1, 1, 1, 1, 1, 1, 1, 1, 1, 1);
        longest.solve();
        none(longest, 0, 12, "of twelve options");
    }

    private static void negative() {
        for (State state : State.values()) {
            ColorCover x = state.make();
            x.solve();
            for (int negative : Check.EDGE_INTS) {
                if (negative < 0) {
                    none(x, negative, 0, "in the state " + state + ", solved");
                    none(x, negative, negative, "in the state " + state + ", solved");
                    none(x, 0, negative, "in the state " + state + ", solved");
                    none(x, 63, negative, "in the state " + state + ", solved");
                }
            }
        }
    }

    private static void changesNothing() {
        Check.changesNothing("solutionOption(0, 0)", x -> x.solutionOption(0, 0));
        Check.changesNothing("solutionOption", x -> {
            for (int value : Check.EDGE_INTS) {
                for (int small = -1; small <= 16; small++) {
                    x.solutionOption(value, small);
                    x.solutionOption(small, value);
                }
            }
        });
    }
}
