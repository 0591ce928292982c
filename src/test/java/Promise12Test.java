/** Promise 12: isCover; what a cover is stands in TermsTest. */
public final class Promise12Test {
    public static void main(String[] args) {
        Check.sentence("every set bit of `mask` is a bit i with 0 <= i < optionCount()", Promise12Test::bitsOfOptions);
        Check.sentence("the set of options given by `mask` is a COVER as defined above.", Promise12Test::givesASet);
        Check.sentence("Any set bit at position optionCount() or higher gives false.", Promise12Test::bitTooHigh);
        Check.sentence("This includes bit 31, so every negative mask gives false.", Promise12Test::negativeMask);
        Check.sentence("Mask 0 gives false, because P >= 1.", Promise12Test::maskZero);
        Check.sentence("The answer depends only on the closed options and P and S.",
            Promise12Test::dependsOnOptionsAndSizes);
        Check.sentence("It does not depend on the pending list", Promise12Test::notOnPending);
        Check.sentence("It does not depend on the results.", Promise12Test::notOnResults);
        Check.sentence("It changes nothing.", Promise12Test::changesNothing);
        Check.finish();
    }

    /** With one item and options that hold it alone, each single bit of an option is a cover. */
    private static void bitsOfOptions() {
        ColorCover x = new ColorCover(1, 0);
        for (int closed = 0; closed <= 16; closed++) {
            for (int bit = 0; bit < 32; bit++) {
                Check.due("isCover(bit " + bit + ") with " + closed + " options", x.isCover(1 << bit), bit < closed);
                Check.due("isCover(bits 0 and " + bit + ") with " + closed + " options",
                    x.isCover(1 | 1 << bit), bit == 0 && closed > 0);
            }
            x.addItem(0, 0);
            x.endOption();
        }
    }

    private static void givesASet() {
        ColorCover x = new ColorCover(3, 0);
        Check.due("the cover masks", Check.coverMasks(x), "");
        Check.option(x, 0, 0);
        Check.due("the cover masks", Check.coverMasks(x), "");
        Check.option(x, 1, 0, 2, 0);
        Check.due("the cover masks", Check.coverMasks(x), " 3");
        Check.option(x, 0, 0, 1, 0, 2, 0);
        Check.due("the cover masks", Check.coverMasks(x), " 3 4");
        Check.option(x, 2, 0, 0, 0);
        Check.option(x, 1, 0);
        Check.due("the cover masks", Check.coverMasks(x), " 3 4 24");
    }

    private static void bitTooHigh() {
        for (State state : State.values()) {
            ColorCover x = state.make();
            for (int mask = 0; mask < 1 << x.optionCount(); mask++) {
                if (mask == 0 || mask == 1 || x.isCover(mask)) {
                    for (int bit = x.optionCount(); bit < 32; bit++) {
                        Check.due("isCover(" + mask + " and bit " + bit + ") in the state " + state,
                            x.isCover(mask | 1 << bit), false);
                    }
                }
            }
        }
    }

    private static void negativeMask() {
        for (State state : State.values()) {
            ColorCover x = state.make();
            for (int low = 0; low < 1 << x.optionCount(); low++) {
                if (x.isCover(low)) {
                    Check.due("isCover(bit 31 and " + low + ") in the state " + state,
                        x.isCover(low | Integer.MIN_VALUE), false);
                    // The sign runs through all bits above the options.
                    Check.due("isCover(all high bits and " + low + ") in the state " + state,
                        x.isCover(low | -1 << x.optionCount()), false);
                }
            }
            for (int mask : Check.EDGE_INTS) {
                if (mask < 0) {
                    Check.due("isCover(" + mask + ") in the state " + state, x.isCover(mask), false);
                }
            }
        }
    }

    private static void maskZero() {
        for (State state : State.values()) {
            Check.due("isCover(0) in the state " + state, state.make().isCover(0), false);
        }
        for (int p = 1; p <= 12; p++) {
            Check.due("isCover(0) with " + p + " primary items", new ColorCover(p, 8).isCover(0), false);
        }
    }

    private static void dependsOnOptionsAndSizes() {
        ColorCover x = State.SIXTEEN_OPTIONS_SOLVED_AND_PENDING.make();
        x.clearOptions();
        Check.due("the cover masks after clearOptions()", Check.coverMasks(x), "");
        // The same numbers with other entries: nothing of the old options is left.
        for (int opt = 0; opt < 5; opt++) {
            Check.option(x, opt, 0);
        }
        Check.due("the cover masks", Check.coverMasks(x), " 31");
        // The same options under another P: one more item is left out.
        ColorCover more = new ColorCover(6, 1);
        for (int opt = 0; opt < 5; opt++) {
            Check.option(more, opt, 0);
        }
        Check.due("the cover masks with one primary item more", Check.coverMasks(more), "");
        // The last item is secondary under one P and primary under another.
        Check.due("isCover(1) of 0/0 with 1+1", oneOption(1, 1).isCover(1), true);
        Check.due("isCover(1) of 0/0 with 2+0", oneOption(2, 0).isCover(1), false);
    }

    private static ColorCover oneOption(int primaries, int secondaries) {
        ColorCover x = new ColorCover(primaries, secondaries);
        Check.option(x, 0, 0);
        return x;
    }

    private static void notOnPending() {
        for (State state : State.values()) {
            ColorCover x = state.make();
            String before = Check.coverMasks(x);
            x.discardPending();
            Check.due("the cover masks after discardPending() in the state " + state, Check.coverMasks(x), before);
            for (int item = 0; item < 20; item++) {
                x.addItem(item, 0);
                Check.due("the cover masks after addItem in the state " + state, Check.coverMasks(x), before);
            }
        }
        // Not even on a pending list that holds all items, in one colour or in another.
        ColorCover large = new ColorCover(12, 8);
        Check.optionsOfItems(large, 1, 13);
        for (int item = 0; item < 20; item++) {
            Check.add(large, item, item < 12 ? 0 : 1);
            Check.due("isCover(1) with " + (item + 1) + " entries pending", large.isCover(1), true);
        }
        // Nor on one that would be a cover alone or complete one.
        ColorCover x = new ColorCover(2, 1);
        Check.option(x, 0, 0);
        Check.add(x, 1, 0);
        Check.due("the cover masks", Check.coverMasks(x), "");
        Check.close(x);
        Check.due("the cover masks", Check.coverMasks(x), " 3");
    }

    private static void notOnResults() {
        for (State state : State.values()) {
            ColorCover x = state.make();
            String before = Check.coverMasks(x);
            x.solve();
            Check.due("the cover masks after solve() in the state " + state, Check.coverMasks(x), before);
        }
        // Covers 65 and up are not stored, and are covers still.
        ColorCover x = State.SIXTEEN_OPTIONS_SOLVED.make();
        Check.due("isCover of the last cover", x.isCover(1 << 2 | 1 << 5 | 1 << 8 | 1 << 11 | 1 << 15), true);
    }

    private static void changesNothing() {
        Check.changesNothing("isCover(1)", x -> x.isCover(1));
        Check.changesNothing("isCover", x -> {
            for (int mask = 0; mask < 2 << x.optionCount(); mask++) {
                x.isCover(mask);
            }
            for (int mask : Check.EDGE_INTS) {
                x.isCover(mask);
            }
        });
    }
}
