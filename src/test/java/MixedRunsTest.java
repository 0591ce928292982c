/** All promises: long mixed runs of calls, each answer held against PlainCover. */
public final class MixedRunsTest {
    private static final int RUNS = 120;
    private static final int CALLS = 250;

    // A fixed sequence of mixed numbers, so that every run of the test makes the same calls.
    private static long state = 20261115L;

    private static ColorCover x;
    private static PlainCover plain;
    private static int coversSeen = 0;
    private static int overflowsSeen = 0;

    public static void main(String[] args) {
        for (int run = 0; run < RUNS; run++) {
            int p = run % 8 == 0 ? edgeOr(14) : 1 + below(run % 2 == 0 ? 4 : 12);
            int s = run % 8 == 0 ? edgeOr(10) : below(9);
            x = new ColorCover(p, s);
            plain = new PlainCover(p, s);
            // Few colours and small options make covers likely; the others make refusals likely.
            int colours = 1 + below(run % 3 == 0 ? 16 : 3);
            int most = 1 + below(run % 4 == 0 ? 20 : 4);
            for (int call = 0; call < CALLS; call++) {
                oneCall(colours, most);
            }
            Check.same("at the end of run " + run, x, plain);
        }
        Check.due("runs that solve to a cover were made", coversSeen > 100, true);
        Check.due("runs with more than 64 covers were made", overflowsSeen > 5, true);
        Check.finish();
    }

    private static int below(int bound) {
        state = state * 6364136223846793005L + 1442695040888963407L;
        return (int) ((state >>> 33) % bound);
    }

    private static int edgeOr(int bound) {
        return below(12) == 0 ? Check.EDGE_INTS[below(Check.EDGE_INTS.length)] : below(bound + 1) - 1;
    }

    private static void oneCall(int colours, int most) {
        int kind = below(100);
        if (kind < 60) {
            buildOn(colours, most);
        } else if (kind < 66) {
            Check.due("endOption()", x.endOption(), plain.endOption());
        } else if (kind < 68) {
            Check.due("discardPending()", x.discardPending(), plain.discardPending());
        } else if (kind < 69 && below(3) == 0) {
            x.clearOptions();
            plain.clearOptions();
        } else if (kind < 71) {
            solve();
        } else if (kind < 80) {
            int mask = below(4) == 0 ? edgeOr(1 << 17) : below(1 << plain.options.size());
            Check.due("isCover(" + mask + ")", x.isCover(mask), plain.isCover(mask));
        } else {
            read(edgeOr(17), edgeOr(20), edgeOr(66));
        }
    }

    private static void buildOn(int colours, int most) {
        if (plain.pending.size() >= most) {
            Check.due("endOption()", x.endOption(), plain.endOption());
        }
        int item = edgeOr(plain.primaries + plain.secondaries + 1);
        int colour = item < plain.primaries && below(10) != 0 ? 0 : edgeOr(colours);
        Check.due("addItem(" + item + ", " + colour + ")", x.addItem(item, colour), plain.addItem(item, colour));
        Check.due("pendingSize()", x.pendingSize(), plain.pending.size());
    }

    private static void solve() {
        int want = plain.solve();
        Check.due("solve()", x.solve(), want);
        coversSeen += want > 0 ? 1 : 0;
        overflowsSeen += want > 64 ? 1 : 0;
        Check.sameNow("after solve()", x, plain);
    }

    private static void read(int opt, int idx, int k) {
        Check.due("optionSize(" + opt + ")", x.optionSize(opt), plain.optionSize(opt));
        Check.due("optionEntry(" + opt + ", " + idx + ")", x.optionEntry(opt, idx), plain.optionEntry(opt, idx));
        Check.due("solutionCount()", x.solutionCount(), plain.solutionCount());
        Check.due("solutionSize(" + k + ")", x.solutionSize(k), plain.solutionSize(k));
        Check.due("solutionOption(" + k + ", " + idx + ")", x.solutionOption(k, idx), plain.solutionOption(k, idx));
    }
}
