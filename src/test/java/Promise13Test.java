/** Promise 13: solve. */
public final class Promise13Test {
    public static void main(String[] args) {
        Check.sentence("`solve()` always works.", Promise13Test::alwaysWorks);
        Check.sentence("It searches all covers of the closed options.", Promise13Test::searchesAll);
        Check.sentence("The pending list is ignored and kept unchanged.", Promise13Test::ignoresPending);
        Check.sentence("Previous results are replaced", Promise13Test::replacesResults);
        Check.sentence("afterwards the results are valid.", Promise13Test::resultsAreValid);
        Check.sentence("The count is the number of masks m, with 0 <= m < 2 to the power optionCount(),"
            + " for which `isCover(m)` is true.", Promise13Test::countsMasks);
        Check.sentence("The answer of `solve()` is this count", Promise13Test::answersTheCount);
        Check.sentence("it is 0 if there are no closed options.", Promise13Test::withoutOptions);
        Check.sentence("The stored covers are the first min(count, 64) covers in the ORDER OF SOLUTIONS,"
            + " numbered 0, 1, ... in that order.", Promise13Test::storesTheFirst);
        Check.sentence("`solutionSize(k)` is at least 1.", Promise13Test::sizesAtLeastOne);
        Check.sentence("The values `solutionOption(k, 0)` .. `solutionOption(k, solutionSize(k)-1)`"
            + " are strictly ascending option numbers in 0..optionCount()-1.", Promise13Test::ascending);
        Check.sentence("The mask with exactly those bits set satisfies `isCover`.", Promise13Test::masksAreCovers);
        Check.sentence("So every primary item is covered exactly once, and every secondary item is covered at most once"
            + " or only by options giving it one and the same nonzero colour.", Promise13Test::coversItems);
        Check.sentence("Stored covers k and k+1 are distinct, and cover k precedes cover k+1"
            + " in the lexicographic order of the ascending lists.", Promise13Test::inOrder);
        Check.sentence("`solutionSize(min(c,64))` answers `NONE`.", Promise13Test::noneBehindTheLast);
        Check.sentence("These hold until the next successful `endOption()` or `clearOptions()`.",
            Promise13Test::holdUntil);
        Check.sentence("After either of those, `solutionCount()` answers `NONE`.", Promise13Test::noCountAfter);
        Check.sentence("Calling `solve()` again without changing the closed options gives the same count"
            + " and the same stored covers.", Promise13Test::solvesAgain);
        Check.sentence("Closed options, the pending list, P and S are unchanged.", Promise13Test::leavesTheRest);
        Check.finish();
    }

    private static void alwaysWorks() {
        for (State state : State.values()) {
            ColorCover x = state.make();
            int answer = x.solve();
            Check.due("solve() in the state " + state + " answers 0..324", answer >= 0 && answer <= 324, true);
        }
    }

    private static void searchesAll() {
        ColorCover x = new ColorCover(3, 0);
        Check.option(x, 2, 0);
        Check.option(x, 0, 0, 1, 0, 2, 0);
        Check.option(x, 1, 0);
        Check.option(x, 0, 0);
        Check.option(x, 0, 0, 1, 0);
        Check.option(x, 1, 0, 2, 0);
        Check.due("solve()", x.solve(), 4);
        Check.due("the covers", Check.covers(x), "0 2 3 | 0 4 | 1 | 3 5");
        // The shortest and the longest lists, with the first option and the last.
        ColorCover singles = Check.groups(16);
        Check.due("solve() of one item", singles.solve(), 16);
        Check.due("the covers", Check.covers(singles),
            "0 | 1 | 2 | 3 | 4 | 5 | 6 | 7 | 8 | 9 | 10 | 11 | 12 | 13 | 14 | 15");
        ColorCover longest = Check.groups(1, 1, 1, 1, 1, 1, 1, 1, 1, 1, 1, 1);
        Check.due("solve() of twelve items", longest.solve(), 1);
        Check.due("the covers", Check.covers(longest), "0 1 2 3 4 5 6 7 8 9 10 11");
        // The clashes stand late in the lists, so that very few lists can be passed over.
        ColorCover widest = new ColorCover(12, 0);
        for (int opt = 0; opt < 16; opt++) {
            Check.option(widest, opt % 12, 0);
        }
        Check.due("solve() of twelve items with sixteen options", widest.solve(), 16);
        Check.due("cover 0", Check.cover(widest, 0), "0 1 2 3 4 5 6 7 8 9 10 11");
        Check.due("cover 14", Check.cover(widest, 14), "3 4 5 6 7 8 9 10 11 12 13 14");
        Check.due("cover 15", Check.cover(widest, 15), "4 5 6 7 8 9 10 11 12 13 14 15");
    }

    private static void ignoresPending() {
        for (State state : State.values()) {
            ColorCover with = state.make();
            ColorCover without = state.make();
            without.discardPending();
            int held = with.pendingSize();
            Check.due("solve() in the state " + state, with.solve(), without.solve());
            Check.due("the results in the state " + state, Check.results(with), Check.results(without));
            Check.due("pendingSize() in the state " + state, with.pendingSize(), held);
        }
        ColorCover x = new ColorCover(1, 1);
        Check.option(x, 0, 0);
        Check.add(x, 1, 3, 0, 0);
        Check.due("solve()", x.solve(), 1);
        Check.due("pendingSize()", x.pendingSize(), 2);
        Check.close(x);
        Check.due("option 1", Check.entries(x, 1), "1/3 0/0");
    }

    private static void replacesResults() {
        ColorCover x = Check.groups(4, 4, 4);
        Check.due("solve()", x.solve(), 64);
        Check.option(x, 0, 0, 1, 0);
        Check.due("solve() with an option more", x.solve(), 68);
        Check.option(x, 0, 0, 1, 0, 2, 0);
        Check.due("solve() with two options more", x.solve(), 69);
        x.clearOptions();
        Check.option(x, 0, 0, 1, 0, 2, 0);
        Check.due("solve() of one option", x.solve(), 1);
        Check.due("the covers", Check.covers(x), "0");
        x.clearOptions();
        Check.due("solve() of nothing", x.solve(), 0);
        Check.due("the covers", Check.covers(x), "");
        // A new cover comes before the old ones, so that each of them moves.
        ColorCover moved = new ColorCover(2, 0);
        Check.option(moved, 0, 0);
        Check.option(moved, 0, 0, 1, 0);
        Check.due("solve()", moved.solve(), 1);
        Check.due("the covers", Check.covers(moved), "1");
        Check.option(moved, 1, 0);
        Check.due("solve()", moved.solve(), 2);
        Check.due("the covers", Check.covers(moved), "0 2 | 1");
    }

    private static void resultsAreValid() {
        for (State state : State.values()) {
            ColorCover x = state.make();
            int answer = x.solve();
            Check.due("solutionCount() in the state " + state, x.solutionCount(), answer);
        }
    }

    private static void countsMasks() {
        for (State state : State.values()) {
            ColorCover x = state.make();
            int masks = 0;
            for (int mask = 0; mask < 1 << x.optionCount(); mask++) {
                masks += x.isCover(mask) ? 1 : 0;
            }
            Check.due("solve() in the state " + state, x.solve(), masks);
        }
    }

    /** Around 64, where storing ends, and at 324, the most that sixteen options can have. */
    private static void answersTheCount() {
        Check.due("solve() of 3*3*7", Check.groups(3, 3, 7).solve(), 63);
        Check.due("solve() of 4*4*4", Check.groups(4, 4, 4).solve(), 64);
        ColorCover x = Check.groups(4, 4, 4);
        Check.option(x, 2, 0, 1, 0, 0, 0);
        Check.due("solve() of 4*4*4 and one more", x.solve(), 65);
        Check.due("solve() of 2 eight times", Check.groups(2, 2, 2, 2, 2, 2, 2, 2).solve(), 256);
        Check.due("solve() of 3*3*3*3*4", Check.groups(3, 3, 3, 3, 4).solve(), 324);
        Check.due("solve() of 2*0", Check.groups(2, 0).solve(), 0);
        Check.due("solve() of 1", Check.groups(1).solve(), 1);
    }

    private static void withoutOptions() {
        for (int p = 1; p <= 12; p++) {
            for (int s = 0; s <= 8; s++) {
                Check.due("solve() of " + p + "+" + s, new ColorCover(p, s).solve(), 0);
            }
        }
        ColorCover x = State.SOLVED_NOTHING_AND_PENDING.make();
        Check.due("solve() with a pending list", x.solve(), 0);
        Check.due("solutionCount()", x.solutionCount(), 0);
        Check.due("solutionSize(0)", x.solutionSize(0), ColorCover.NONE);
        Check.due("solve() after clearOptions()", State.CLEARED.make().solve(), 0);
    }

    private static void storesTheFirst() {
        stores(3, 3, 7);
        stores(4, 4, 4);
        stores(5, 5, 5);
        stores(3, 3, 3, 3, 4);
        stores(2, 2, 2, 2, 2, 2, 2, 2);
        stores(2, 1, 2, 1, 2, 1, 2, 1, 1, 1, 1, 1);
        // The 65th cover is left out, whether an option makes it the last one or the first one.
        ColorCover last = Check.groups(4, 4, 4);
        Check.option(last, 2, 0, 1, 0, 0, 0);
        last.solve();
        Check.due("cover 63", Check.cover(last, 63), Check.groupsCover(63, 4, 4, 4));
        ColorCover first = new ColorCover(3, 0);
        Check.option(first, 2, 0, 1, 0, 0, 0);
        for (int opt = 0; opt < 12; opt++) {
            Check.option(first, opt / 4, 0);
        }
        first.solve();
        Check.due("cover 0", Check.cover(first, 0), "0");
        Check.due("cover 1", Check.cover(first, 1), "1 5 9");
        Check.due("cover 63", Check.cover(first, 63), "4 8 11");
    }

    private static void stores(int... sizes) {
        ColorCover x = Check.groups(sizes);
        int count = x.solve();
        for (int k = 0; k < 64 && k < count; k++) {
            Check.due("cover " + k + " of " + count, Check.cover(x, k), Check.groupsCover(k, sizes));
        }
    }

    private static void sizesAtLeastOne() {
        for (State state : State.values()) {
            ColorCover x = state.make();
            int count = x.solve();
            for (int k = 0; k < 64 && k < count; k++) {
                Check.due("solutionSize(" + k + ") in the state " + state + " is at least 1",
                    x.solutionSize(k) >= 1, true);
            }
        }
    }

    private static void ascending() {
        for (State state : State.values()) {
            ColorCover x = state.make();
            int count = x.solve();
            for (int k = 0; k < 64 && k < count; k++) {
                int before = -1;
                for (int j = 0; j < x.solutionSize(k); j++) {
                    int opt = x.solutionOption(k, j);
                    Check.due("solutionOption(" + k + ", " + j + ") in the state " + state + " is above " + before
                        + " and an option", opt > before && opt < x.optionCount(), true);
                    before = opt;
                }
            }
        }
    }

    private static int mask(ColorCover x, int k) {
        int mask = 0;
        for (int j = 0; j < x.solutionSize(k); j++) {
            mask |= 1 << x.solutionOption(k, j);
        }
        return mask;
    }

    private static void masksAreCovers() {
        for (State state : State.values()) {
            ColorCover x = state.make();
            int count = x.solve();
            for (int k = 0; k < 64 && k < count; k++) {
                Check.due("isCover of cover " + k + " in the state " + state, x.isCover(mask(x, k)), true);
            }
        }
        ColorCover x = new ColorCover(2, 1);
        Check.option(x, 0, 0, 2, 1);
        Check.option(x, 0, 0, 2, 0);
        Check.option(x, 0, 0);
        Check.option(x, 1, 0, 2, 1);
        Check.option(x, 1, 0, 2, 0);
        Check.option(x, 1, 0, 2, 2);
        Check.due("solve()", x.solve(), 4);
        Check.due("the covers", Check.covers(x), "0 3 | 2 3 | 2 4 | 2 5");
        for (int k = 0; k < 4; k++) {
            Check.due("isCover of cover " + k, x.isCover(mask(x, k)), true);
        }
    }

    /** Reads the entries themselves, without asking isCover. */
    private static void coversItems() {
        for (State state : State.values()) {
            ColorCover x = state.make();
            int count = x.solve();
            for (int k = 0; k < 64 && k < count; k++) {
                for (int item = 0; item < x.primaryCount() + x.secondaryCount(); item++) {
                    Check.due("item " + item + " is covered well by cover " + k + " in the state " + state,
                        coversWell(x, k, item), true);
                }
            }
        }
    }

    private static boolean coversWell(ColorCover x, int k, int item) {
        int times = 0;
        int colour = 0;
        boolean agree = true;
        for (int j = 0; j < x.solutionSize(k); j++) {
            int opt = x.solutionOption(k, j);
            for (int idx = 0; idx < x.optionSize(opt); idx++) {
                int entry = x.optionEntry(opt, idx);
                if (entry / 16 == item) {
                    agree &= times == 0 || colour == entry % 16;
                    colour = entry % 16;
                    times++;
                }
            }
        }
        return item < x.primaryCount() ? times == 1 : times <= 1 || agree && colour != 0;
    }

    private static void inOrder() {
        for (State state : State.values()) {
            ColorCover x = state.make();
            int count = x.solve();
            for (int k = 0; k + 1 < 64 && k + 1 < count; k++) {
                Check.due("cover " + k + " precedes the next in the state " + state, precedes(x, k), true);
            }
        }
        ColorCover x = new ColorCover(2, 0);
        Check.option(x, 0, 0);
        Check.option(x, 0, 0);
        Check.option(x, 1, 0);
        Check.option(x, 1, 0);
        Check.option(x, 0, 0, 1, 0);
        Check.option(x, 1, 0);
        // The mask of 0 5 is greater than that of 1 2, and 4 is the shortest list: neither gives the order.
        Check.due("solve()", x.solve(), 7);
        Check.due("the covers", Check.covers(x), "0 2 | 0 3 | 0 5 | 1 2 | 1 3 | 1 5 | 4");
    }

    private static boolean precedes(ColorCover x, int k) {
        for (int j = 0; j < 16; j++) {
            int one = x.solutionOption(k, j);
            int other = x.solutionOption(k + 1, j);
            if (one != other) {
                return one < other;
            }
        }
        return false;
    }

    private static void noneBehindTheLast() {
        for (State state : State.values()) {
            ColorCover x = state.make();
            int count = x.solve();
            int behind = count < 64 ? count : 64;
            Check.due("solutionSize(" + behind + ") in the state " + state, x.solutionSize(behind), ColorCover.NONE);
        }
        noneAt(63, 3, 3, 7);
        noneAt(64, 4, 4, 4);
        noneAt(64, 5, 5, 5);
        noneAt(64, 3, 3, 3, 3, 4);
        noneAt(1, 1);
        noneAt(0, 0);
    }

    private static void noneAt(int behind, int... sizes) {
        ColorCover x = Check.groups(sizes);
        x.solve();
        Check.due("solutionSize(" + behind + ")", x.solutionSize(behind), ColorCover.NONE);
        if (behind > 0) {
            Check.due("solutionSize(" + (behind - 1) + ")", x.solutionSize(behind - 1), sizes.length);
        }
    }

    private static void holdUntil() {
        for (State state : State.values()) {
            ColorCover x = state.make();
            x.solve();
            String results = Check.results(x);
            x.discardPending();
            Check.due("the results after discardPending() in the state " + state, Check.results(x), results);
            x.endOption();
            Check.due("the results after a refused endOption() in the state " + state, Check.results(x), results);
            x.addItem(-1, 0);
            x.addItem(0, 0);
            x.addItem(0, 0);
            Check.due("the results after addItem in the state " + state, Check.results(x), results);
            if (x.endOption() >= 0) {
                Check.due("solutionSize(0) after endOption() in the state " + state,
                    x.solutionSize(0), ColorCover.NONE);
            }
            x.solve();
            x.clearOptions();
            Check.due("solutionSize(0) after clearOptions() in the state " + state,
                x.solutionSize(0), ColorCover.NONE);
        }
    }

    private static void noCountAfter() {
        ColorCover x = Check.groups(2, 2);
        Check.due("solve()", x.solve(), 4);
        Check.option(x, 0, 0, 1, 0);
        Check.due("solutionCount() after endOption()", x.solutionCount(), ColorCover.NONE);
        Check.due("solve()", x.solve(), 5);
        x.clearOptions();
        Check.due("solutionCount() after clearOptions()", x.solutionCount(), ColorCover.NONE);
        Check.due("solve()", x.solve(), 0);
        x.clearOptions();
        Check.due("solutionCount() after clearOptions() of nothing", x.solutionCount(), ColorCover.NONE);
    }

    private static void solvesAgain() {
        for (State state : State.values()) {
            ColorCover x = state.make();
            int count = x.solve();
            String results = Check.results(x);
            Check.due("solve() again in the state " + state, x.solve(), count);
            Check.due("the results in the state " + state, Check.results(x), results);
            x.discardPending();
            x.addItem(0, 0);
            Check.due("solve() with another pending list in the state " + state, x.solve(), count);
            Check.due("the results with another pending list in the state " + state, Check.results(x), results);
        }
    }

    private static void leavesTheRest() {
        for (State state : State.values()) {
            ColorCover x = state.make();
            PlainCover plain = state.plain();
            x.solve();
            plain.solve();
            Check.same("after solve() in the state " + state, x, plain);
        }
    }
}
