/** Promise 11: optionEntry. */
public final class Promise11Test {
    public static void main(String[] args) {
        Check.sentence("`optionEntry(int opt, int idx)` answers entry `idx` of closed option `opt`.",
            Promise11Test::answersTheEntry);
        Check.sentence("Entries are counted from 0 in the order they were added.", Promise11Test::countsFromZero);
        Check.sentence("The entry is encoded as `item * 16 + colour`.", Promise11Test::encodes);
        Check.sentence("The answer is `NONE` if `opt` is outside 0..optionCount()-1", Promise11Test::optionOutside);
        Check.sentence("or if `idx` is outside 0..optionSize(opt)-1.", Promise11Test::indexOutside);
        Check.sentence("Negative values count as outside.", Promise11Test::negative);
        Check.sentence("It changes nothing.", Promise11Test::changesNothing);
        Check.finish();
    }

    private static void answersTheEntry() {
        ColorCover x = new ColorCover(12, 8);
        for (int opt = 0; opt < 16; opt++) {
            Check.option(x, opt % 12, 0, 12 + opt % 8, opt, 12 + (opt + 1) % 8, 15 - opt);
        }
        for (int opt = 0; opt < 16; opt++) {
            Check.due("optionEntry(" + opt + ", 0)", x.optionEntry(opt, 0), opt % 12 * 16);
            Check.due("optionEntry(" + opt + ", 1)", x.optionEntry(opt, 1), (12 + opt % 8) * 16 + opt);
            Check.due("optionEntry(" + opt + ", 2)", x.optionEntry(opt, 2), (12 + (opt + 1) % 8) * 16 + 15 - opt);
        }
    }

    private static void countsFromZero() {
        ColorCover x = new ColorCover(12, 8);
        Check.option(x, 1, 0);
        for (int item = 19; item >= 0; item--) {
            Check.add(x, item, 0);
        }
        Check.close(x);
        for (int idx = 0; idx < 20; idx++) {
            Check.due("optionEntry(1, " + idx + ")", x.optionEntry(1, idx), (19 - idx) * 16);
        }
    }

    private static void encodes() {
        for (int item = 12; item < 20; item++) {
            for (int colour = 0; colour <= 15; colour++) {
                ColorCover x = new ColorCover(12, 8);
                Check.option(x, item, colour, item - 12, 0);
                Check.due("optionEntry(0, 0)", x.optionEntry(0, 0), item * 16 + colour);
                Check.due("optionEntry(0, 1)", x.optionEntry(0, 1), (item - 12) * 16);
            }
        }
        // The least and the greatest code.
        ColorCover x = new ColorCover(12, 8);
        Check.option(x, 0, 0, 19, 15);
        Check.due("optionEntry(0, 0)", x.optionEntry(0, 0), 0);
        Check.due("optionEntry(0, 1)", x.optionEntry(0, 1), 319);
    }

    private static void none(ColorCover x, int opt, int idx, String state) {
        Check.due("optionEntry(" + opt + ", " + idx + ") in the state " + state,
            x.optionEntry(opt, idx), ColorCover.NONE);
    }

    private static void optionOutside() {
        for (State state : State.values()) {
            ColorCover x = state.make();
            for (int opt : Check.outside(0, x.optionCount() - 1)) {
                none(x, opt, 0, state.name());
                none(x, opt, 1, state.name());
                // An option that is not there has no entries at all, not -1 of them.
                none(x, opt, -1, state.name());
                none(x, opt, -2, state.name());
                none(x, opt, Integer.MAX_VALUE, state.name());
            }
        }
        ColorCover x = State.SOLVED_AND_PENDING.make();
        none(x, 3, 0, "with a pending list behind option 2");
    }

    private static void indexOutside() {
        for (State state : State.values()) {
            ColorCover x = state.make();
            for (int opt = 0; opt < x.optionCount(); opt++) {
                for (int idx : Check.outside(0, x.optionSize(opt) - 1)) {
                    none(x, opt, idx, state.name());
                }
            }
        }
        // Behind the last entry stands neither the next option's first one nor the pending list's.
        ColorCover x = new ColorCover(3, 0);
        Check.option(x, 0, 0, 1, 0);
        Check.option(x, 2, 0);
        Check.add(x, 1, 0);
        none(x, 0, 2, "0/0 1/0 and 2/0 closed, 1/0 pending");
        none(x, 1, 1, "0/0 1/0 and 2/0 closed, 1/0 pending");
    }

    private static void negative() {
        for (State state : State.values()) {
            ColorCover x = state.make();
            for (int negative : Check.EDGE_INTS) {
                if (negative < 0) {
                    none(x, negative, 0, state.name());
                    none(x, negative, negative, state.name());
                    for (int opt = 0; opt < 16; opt++) {
                        none(x, opt, negative, state.name());
                    }
                }
            }
        }
    }

    private static void changesNothing() {
        Check.changesNothing("optionEntry(0, 0)", x -> x.optionEntry(0, 0));
        Check.changesNothing("optionEntry", x -> {
            for (int value : Check.EDGE_INTS) {
                for (int small = -1; small <= 20; small++) {
                    x.optionEntry(value, small);
                    x.optionEntry(small, value);
                }
            }
        });
    }
}
