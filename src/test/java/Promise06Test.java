/** Promise 6: primaryCount. */
public final class Promise06Test {
    public static void main(String[] args) {
        Check.sentence("`primaryCount()` answers P, a value in 1..12.", Promise06Test::answersP);
        Check.sentence("It changes nothing.", () -> Check.changesNothing("primaryCount()", ColorCover::primaryCount));
        Check.finish();
    }

    private static void answersP() {
        for (int p = 1; p <= 12; p++) {
            for (int s = 0; s <= 8; s++) {
                Check.due("primaryCount() of " + p + "+" + s, new ColorCover(p, s).primaryCount(), p);
            }
        }
        for (int primaries : Check.EDGE_INTS) {
            int answer = new ColorCover(primaries, 8).primaryCount();
            Check.due("primaryCount() of " + primaries + " is in 1..12", answer >= 1 && answer <= 12, true);
        }
    }
}
