import java.util.TreeSet;

/** What the document says before its promises, under 'What it is' and 'Terms'. */
public final class TermsTest {
    public static void main(String[] args) {
        Check.sentence("Every call works for every `int` argument in every state.", TermsTest::everyCallWorks);
        Check.sentence("A refused call changes nothing.", TermsTest::refusedChangesNothing);
        Check.sentence("Items are numbered 0..P-1 (primary) and P..P+S-1 (secondary).", TermsTest::items);
        Check.sentence("Every entry of an option is a pair (item, colour), with colour in 0..15.", TermsTest::colours);
        Check.sentence("Colour 0 means no colour.", TermsTest::colourZero);
        Check.sentence("A primary item always has colour 0.", TermsTest::primaryColour);
        Check.sentence("A secondary item may have colour 0 or a colour 1..15.", TermsTest::secondaryColour);
        Check.sentence("An option is a nonempty list of entries", TermsTest::nonempty);
        Check.sentence("with pairwise distinct items", TermsTest::distinctItems);
        Check.sentence("containing at least one primary item.", TermsTest::onePrimary);
        Check.sentence("Closed options are numbered 0, 1, 2, ... in the order they were closed.", TermsTest::numbered);
        Check.sentence("There are at most 16 options", TermsTest::sixteenOptions);
        Check.sentence("at most 64 entries in total over all closed options plus the pending list.",
            TermsTest::sixtyFourEntries);
        Check.sentence("(a) every primary item occurs in exactly one option of C", TermsTest::primaryExactlyOnce);
        Check.sentence("(b) for every secondary item s, O has at most one member", TermsTest::secondaryAtMostOnce);
        Check.sentence("(b) or every option in O gives s a nonzero colour and all these colours are equal.",
            TermsTest::secondaryInOneColour);
        Check.sentence("bit i (value `1 << i`) is set if and only if option i is in the set.", TermsTest::masks);
        Check.sentence("At the first position where two lists differ, the list with the smaller option number"
            + " comes first.", TermsTest::firstDifference);
        Check.sentence("If one list is a proper prefix of the other, the shorter list comes first.",
            TermsTest::properPrefix);
        Check.sentence("The results are VALID from a `solve()` until the next successful `endOption()`"
            + " or the next `clearOptions()`.", TermsTest::validity);
        Check.sentence("No other call changes them.", TermsTest::resultsStay);
        Check.sentence("`addItem` and `discardPending` never change the results", TermsTest::pendingCallsKeepResults);
        Check.sentence("the pending list is not part of any search.", TermsTest::pendingNotSearched);
        Check.finish();
    }

    private static void everyCallWorks() {
        for (State state : State.values()) {
            for (int value : Check.EDGE_INTS) {
                ColorCover x = state.make();
                answerIn(state, "addItem(" + value + ", 0)", x.addItem(value, 0), -5, 0);
                answerIn(state, "addItem(19, " + value + ")", x.addItem(19, value), -5, 0);
                answerIn(state, "addItem(" + value + ", " + value + ")", x.addItem(value, value), -5, 0);
                read(state, x, value);
                answerIn(state, "endOption()", x.endOption(), -8, 15);
                answerIn(state, "solve()", x.solve(), 0, 324);
                read(state, x, value);
                answerIn(state, "discardPending()", x.discardPending(), 0, 20);
                x.clearOptions();
                read(state, x, value);
                answerIn(state, "endOption()", x.endOption(), -6, -6);
                answerIn(state, "solve()", x.solve(), 0, 0);
            }
        }
    }

    private static void read(State state, ColorCover x, int value) {
        answerIn(state, "primaryCount()", x.primaryCount(), 1, 12);
        answerIn(state, "secondaryCount()", x.secondaryCount(), 0, 8);
        answerIn(state, "optionCount()", x.optionCount(), 0, 16);
        answerIn(state, "pendingSize()", x.pendingSize(), 0, 20);
        answerIn(state, "optionSize(" + value + ")", x.optionSize(value), -1, 20);
        answerIn(state, "optionEntry(" + value + ", 0)", x.optionEntry(value, 0), -1, 319);
        answerIn(state, "optionEntry(0, " + value + ")", x.optionEntry(0, value), -1, 319);
        answerIn(state, "optionEntry(" + value + ", " + value + ")", x.optionEntry(value, value), -1, 319);
        answerIn(state, "isCover(" + value + ")", x.isCover(value) ? 1 : 0, 0, 1);
        answerIn(state, "solutionCount()", x.solutionCount(), -1, 324);
        answerIn(state, "solutionSize(" + value + ")", x.solutionSize(value), -1, 12);
        answerIn(state, "solutionOption(" + value + ", 0)", x.solutionOption(value, 0), -1, 15);
        answerIn(state, "solutionOption(0, " + value + ")", x.solutionOption(0, value), -1, 15);
        answerIn(state, "solutionOption(" + value + ", " + value + ")", x.solutionOption(value, value), -1, 15);
    }

    private static void answerIn(State state, String call, int answer, int least, int greatest) {
        Check.due(call + " in the state " + state + " is in " + least + ".." + greatest,
            answer >= least && answer <= greatest, true);
    }

    /** The document's words tell which calls are refused; all of them together, and one of each kind alone. */
    private static void refusedChangesNothing() {
        for (State state : State.values()) {
            ColorCover x = state.make();
            PlainCover plain = state.plain();
            TreeSet<Integer> seen = new TreeSet<>();
            for (int item = -2; item <= 21; item++) {
                for (int colour = -2; colour <= 17; colour++) {
                    int answer = plain.addItem(item, colour);
                    if (answer == ColorCover.OK) {
                        plain = state.plain();
                        continue;
                    }
                    x.addItem(item, colour);
                    if (seen.add(answer)) {
                        refusedLeaves(state, item, colour);
                    }
                }
            }
            if (plain.endOption() < 0) {
                x.endOption();
            }
            Check.same("after refused calls in the state " + state, x, state.plain());
        }
    }

    private static void refusedLeaves(State state, int item, int colour) {
        ColorCover x = state.make();
        x.addItem(item, colour);
        Check.same("after addItem(" + item + ", " + colour + ") in the state " + state, x, state.plain());
    }

    private static void items() {
        for (int p = 1; p <= 12; p++) {
            for (int s = 0; s <= 8; s++) {
                ColorCover x = new ColorCover(p, s);
                Check.due("addItem(-1, 0) with " + p + "+" + s, x.addItem(-1, 0), ColorCover.ERR_ITEM);
                Check.due("addItem(" + (p + s) + ", 0) with " + p + "+" + s, x.addItem(p + s, 0), ColorCover.ERR_ITEM);
                // Only secondary items take a colour, only primary ones make an option.
                Check.due("addItem(" + (p - 1) + ", 1)", x.addItem(p - 1, 1), ColorCover.ERR_PRIMARY_COLOUR);
                for (int item = p; item < p + s; item++) {
                    Check.add(x, item, 1);
                }
                Check.due("endOption()", x.endOption(), s == 0 ? ColorCover.ERR_EMPTY : ColorCover.ERR_NO_PRIMARY);
                Check.addRange(x, 0, p - 1);
                Check.close(x);
            }
        }
    }

    private static void colours() {
        ColorCover x = new ColorCover(1, 8);
        Check.due("addItem(1, -1)", x.addItem(1, -1), ColorCover.ERR_COLOUR);
        Check.due("addItem(1, 16)", x.addItem(1, 16), ColorCover.ERR_COLOUR);
        Check.option(x, 0, 0, 1, 0, 8, 15, 2, 1, 3, 14);
        Check.due("option 0", Check.entries(x, 0), "0/0 1/0 8/15 2/1 3/14");
    }

    private static boolean pairIsCover(int one, int other) {
        ColorCover x = new ColorCover(2, 2);
        Check.option(x, 0, 0, 3, one);
        Check.option(x, 3, other, 1, 0);
        return x.isCover(3);
    }

    private static void colourZero() {
        Check.due("options agree in colour 0", pairIsCover(0, 0), false);
        for (int colour = 1; colour <= 15; colour++) {
            Check.due("options agree in colours 0 and " + colour, pairIsCover(0, colour), false);
            Check.due("options agree in colours " + colour + " and 0", pairIsCover(colour, 0), false);
        }
    }

    private static void primaryColour() {
        for (int item = 0; item < 12; item++) {
            ColorCover x = new ColorCover(12, 8);
            for (int colour = 1; colour <= 15; colour++) {
                Check.due("addItem(" + item + ", " + colour + ")", x.addItem(item, colour),
                    ColorCover.ERR_PRIMARY_COLOUR);
            }
            Check.option(x, item, 0);
            Check.due("optionEntry(0, 0)", x.optionEntry(0, 0), item * 16);
        }
    }

    private static void secondaryColour() {
        for (int item = 12; item < 20; item++) {
            for (int colour = 0; colour <= 15; colour++) {
                ColorCover x = new ColorCover(12, 8);
                Check.option(x, item, colour, 0, 0);
                Check.due("optionEntry(0, 0)", x.optionEntry(0, 0), item * 16 + colour);
            }
        }
    }

    private static void nonempty() {
        for (State state : State.values()) {
            ColorCover x = state.make();
            x.discardPending();
            int closed = x.optionCount();
            Check.due("endOption() in the state " + state, x.endOption(), ColorCover.ERR_EMPTY);
            Check.due("optionCount() in the state " + state, x.optionCount(), closed);
        }
    }

    private static void distinctItems() {
        ColorCover x = new ColorCover(2, 1);
        Check.add(x, 2, 1, 0, 0);
        Check.due("addItem(2, 1)", x.addItem(2, 1), ColorCover.ERR_DUPLICATE);
        Check.due("addItem(2, 2)", x.addItem(2, 2), ColorCover.ERR_DUPLICATE);
        Check.due("addItem(0, 0)", x.addItem(0, 0), ColorCover.ERR_DUPLICATE);
        Check.close(x);
        Check.due("option 0", Check.entries(x, 0), "2/1 0/0");
        // Two options may hold the same items.
        Check.option(x, 2, 1, 0, 0);
    }

    private static void onePrimary() {
        ColorCover x = new ColorCover(1, 2);
        Check.add(x, 1, 0, 2, 15);
        Check.due("endOption()", x.endOption(), ColorCover.ERR_NO_PRIMARY);
        Check.due("optionCount()", x.optionCount(), 0);
        Check.add(x, 0, 0);
        Check.close(x);
    }

    private static void numbered() {
        ColorCover x = new ColorCover(12, 1);
        for (int opt = 0; opt < 16; opt++) {
            Check.add(x, 11 - opt % 12, 0, 12, opt);
            Check.due("endOption()", x.endOption(), opt);
        }
        for (int opt = 0; opt < 16; opt++) {
            Check.due("option " + opt, Check.entries(x, opt), (11 - opt % 12) + "/0 12/" + opt);
        }
    }

    private static void sixteenOptions() {
        ColorCover x = new ColorCover(1, 0);
        for (int opt = 0; opt < 16; opt++) {
            Check.option(x, 0, 0);
        }
        Check.add(x, 0, 0);
        Check.due("endOption()", x.endOption(), ColorCover.ERR_OPTIONS_FULL);
        Check.due("optionCount()", x.optionCount(), 16);
    }

    private static void sixtyFourEntries() {
        ColorCover x = new ColorCover(12, 8);
        int taken = 0;
        for (int round = 0; round < 16; round++) {
            for (int item = 0; item < 5; item++) {
                taken += x.addItem(item, 0) == ColorCover.OK ? 1 : 0;
            }
            x.endOption();
        }
        Check.due("entries taken", taken, 64);
        Check.due("optionCount()", x.optionCount(), 13);
        Check.due("optionSize(12)", x.optionSize(12), 4);
        // Sixteen options of four entries fill both at once.
        x.clearOptions();
        Check.optionsOfItems(x, 16, 4);
        Check.due("addItem(0, 0)", x.addItem(0, 0), ColorCover.ERR_ENTRIES_FULL);
    }

    private static void primaryExactlyOnce() {
        for (int p = 1; p <= 12; p++) {
            for (int item = 0; item < p; item++) {
                ColorCover x = new ColorCover(p, 1);
                for (int other = 0; other < p; other++) {
                    if (other != item) {
                        Check.add(x, other, 0);
                    }
                }
                Check.add(x, p, 1);
                boolean closed = x.endOption() == 0;
                x.discardPending();
                Check.option(x, item, 0);
                Check.option(x, item, 0);
                int rest = closed ? 1 : 0;
                int once = closed ? 2 : 1;
                Check.due("isCover without item " + item + " of " + p, x.isCover(rest), false);
                Check.due("isCover with item " + item + " of " + p, x.isCover(rest | once), true);
                Check.due("isCover with item " + item + " twice", x.isCover(rest | once | once << 1), false);
            }
        }
    }

    private static void secondaryAtMostOnce() {
        // Left out, or in one option in any colour: each is a cover.
        ColorCover x = new ColorCover(1, 3);
        Check.option(x, 0, 0);
        Check.option(x, 0, 0, 1, 0);
        Check.option(x, 0, 0, 1, 0, 2, 3, 3, 15);
        Check.due("the cover masks", Check.coverMasks(x), " 1 2 4");
        // Different secondary items do not meet, in any two colours.
        for (int one = 0; one <= 15; one++) {
            for (int other = 0; other <= 15; other++) {
                ColorCover apart = new ColorCover(2, 2);
                Check.option(apart, 0, 0, 2, one);
                Check.option(apart, 1, 0, 3, other);
                Check.due("isCover(3) with colours " + one + " and " + other, apart.isCover(3), true);
            }
        }
    }

    private static void secondaryInOneColour() {
        for (int one = 0; one <= 15; one++) {
            for (int other = 0; other <= 15; other++) {
                Check.due("options agree in colours " + one + " and " + other, pairIsCover(one, other),
                    one == other && one != 0);
            }
        }
        // Every one of three or more counts, not only neighbours.
        ColorCover x = new ColorCover(3, 2);
        Check.option(x, 0, 0, 3, 4);
        Check.option(x, 1, 0, 3, 4);
        Check.option(x, 2, 0, 3, 4);
        Check.option(x, 2, 0, 3, 5);
        Check.option(x, 2, 0, 3, 0);
        Check.option(x, 2, 0, 4, 4);
        Check.option(x, 2, 0, 3, 4, 4, 0);
        Check.due("the cover masks", Check.coverMasks(x), " 7 35 67");
        // Twelve options in one colour, and the same with one of them in another.
        for (int odd = -1; odd < 12; odd++) {
            ColorCover twelve = new ColorCover(12, 8);
            for (int item = 0; item < 12; item++) {
                Check.option(twelve, item, 0, 19, item == odd ? 14 : 15);
            }
            Check.due("isCover(4095) with option " + odd + " in another colour", twelve.isCover(4095), odd == -1);
        }
        // One item agrees, another does not.
        ColorCover two = new ColorCover(2, 2);
        Check.option(two, 0, 0, 2, 1, 3, 1);
        Check.option(two, 1, 0, 2, 1, 3, 2);
        Check.option(two, 1, 0, 3, 1, 2, 1);
        Check.due("the cover masks", Check.coverMasks(two), " 5");
    }

    private static void masks() {
        ColorCover x = new ColorCover(12, 0);
        Check.addRange(x, 0, 10);
        Check.close(x);
        for (int opt = 1; opt < 16; opt++) {
            Check.option(x, opt == 7 ? 0 : 11, 0);
        }
        for (int opt = 1; opt < 16; opt++) {
            Check.due("isCover(1 + bit " + opt + ")", x.isCover(1 | 1 << opt), opt != 7);
        }
    }

    private static void firstDifference() {
        // Differences at the first position, between and at the last, against the masks' order.
        ColorCover x = new ColorCover(3, 0);
        Check.option(x, 0, 0);
        Check.option(x, 1, 0);
        Check.option(x, 1, 0);
        Check.option(x, 2, 0);
        Check.option(x, 2, 0);
        Check.option(x, 0, 0);
        Check.due("solve()", x.solve(), 8);
        Check.due("the covers", Check.covers(x),
            "0 1 3 | 0 1 4 | 0 2 3 | 0 2 4 | 1 3 5 | 1 4 5 | 2 3 5 | 2 4 5");
        // A long list with a smaller first option comes before a short one.
        ColorCover mixed = new ColorCover(3, 0);
        Check.option(mixed, 0, 0);
        Check.option(mixed, 0, 0, 1, 0, 2, 0);
        Check.option(mixed, 1, 0);
        Check.option(mixed, 2, 0);
        Check.option(mixed, 1, 0, 2, 0);
        Check.due("solve()", mixed.solve(), 3);
        Check.due("the covers", Check.covers(mixed), "0 2 3 | 0 4 | 1");
    }

    /**
     * Every option has a primary item, so a cover with more options behind it is a cover no more, and the rule never
     * decides between two covers. What can be held to it is that no stored list is a prefix of another.
     */
    private static void properPrefix() {
        for (State state : State.values()) {
            ColorCover x = state.make();
            int count = x.solve();
            for (int k = 0; k < 64 && k < count; k++) {
                for (int other = 0; other < k; other++) {
                    boolean prefix = (Check.cover(x, other) + " ").startsWith(Check.cover(x, k) + " ");
                    Check.due("cover " + k + " is a prefix of cover " + other + " in the state " + state,
                        prefix, false);
                }
            }
        }
    }

    private static void validity() {
        ColorCover x = new ColorCover(1, 1);
        Check.due("solutionCount() of a new object", x.solutionCount(), ColorCover.NONE);
        x.solve();
        Check.due("solutionCount() after solve()", x.solutionCount(), 0);
        Check.add(x, 1, 1);
        x.endOption();
        Check.due("solutionCount() after a refused endOption()", x.solutionCount(), 0);
        Check.add(x, 0, 0);
        Check.close(x);
        Check.due("solutionCount() after endOption()", x.solutionCount(), ColorCover.NONE);
        x.solve();
        Check.due("solutionCount() after solve()", x.solutionCount(), 1);
        x.clearOptions();
        Check.due("solutionCount() after clearOptions()", x.solutionCount(), ColorCover.NONE);
        x.solve();
        Check.due("solutionCount() after solve()", x.solutionCount(), 0);
    }

    private static void resultsStay() {
        for (State state : State.values()) {
            ColorCover x = state.make();
            PlainCover plain = state.plain();
            for (int value : Check.EDGE_INTS) {
                read(state, x, value);
            }
            Check.sameNow("after reading in the state " + state, x, plain);
            x.discardPending();
            plain.discardPending();
            x.endOption();
            x.addItem(0, 0);
            plain.addItem(0, 0);
            x.addItem(0, 1);
            Check.sameNow("after other calls in the state " + state, x, plain);
        }
    }

    private static void pendingCallsKeepResults() {
        for (State state : State.values()) {
            ColorCover x = state.make();
            String before = Check.results(x);
            for (int round = 0; round < 2; round++) {
                for (int item = -1; item <= 20; item++) {
                    x.addItem(item, 0);
                }
                Check.due("the results after addItem in the state " + state, Check.results(x), before);
                x.discardPending();
                Check.due("the results after discardPending() in the state " + state, Check.results(x), before);
            }
        }
    }

    private static void pendingNotSearched() {
        ColorCover x = new ColorCover(2, 1);
        Check.option(x, 0, 0);
        Check.add(x, 1, 0);
        Check.due("solve()", x.solve(), 0);
        Check.due("isCover(3)", x.isCover(3), false);
        // Nor does it get in the way of a cover.
        x.discardPending();
        Check.option(x, 1, 0, 2, 5);
        Check.add(x, 0, 0, 1, 0, 2, 4);
        Check.due("solve()", x.solve(), 1);
        Check.due("the covers", Check.covers(x), "0 1");
    }
}
