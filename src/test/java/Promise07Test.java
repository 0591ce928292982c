/** Promise 7: secondaryCount. */
public final class Promise07Test {
    public static void main(String[] args) {
        Check.sentence("`secondaryCount()` answers S, a value in 0..8.", Promise07Test::answersS);
        Check.sentence("It changes nothing.",
            () -> Check.changesNothing("secondaryCount()", ColorCover::secondaryCount));
        Check.finish();
    }

    private static void answersS() {
        for (int s = 0; s <= 8; s++) {
            for (int p = 1; p <= 12; p++) {
                Check.due("secondaryCount() of " + p + "+" + s, new ColorCover(p, s).secondaryCount(), s);
            }
        }
        for (int secondaries : Check.EDGE_INTS) {
            int answer = new ColorCover(12, secondaries).secondaryCount();
            Check.due("secondaryCount() of " + secondaries + " is in 0..8", answer >= 0 && answer <= 8, true);
        }
    }
}
