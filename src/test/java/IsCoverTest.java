/** Promise 12: isCover. */
public final class IsCoverTest {
    public static void main(String[] args) {
        primariesExactlyOnce();
        colourPairs();
        threeOptionsOnOneSecondary();
        secondariesMayStayOut();
        wrongMasks();
        fullHouse();
        dependsOnClosedOptionsAlone();
        Check.finish();
    }

    /** Asks every mask of the closed options; those listed are covers and no other is. */
    private static void coversAre(ColorCover x, int... masks) {
        String before = Check.seen(x);
        for (int mask = 0; mask < 1 << x.optionCount(); mask++) {
            boolean want = false;
            for (int listed : masks) {
                want |= listed == mask;
            }
            Check.due("isCover(" + mask + ")", x.isCover(mask), want);
        }
        Check.due("what is seen after isCover", Check.seen(x), before);
    }

    private static void primariesExactlyOnce() {
        ColorCover x = new ColorCover(3, 0);
        coversAre(x);
        Check.option(x, 0, 0);
        coversAre(x);
        Check.option(x, 1, 0, 2, 0);
        coversAre(x, 0b11);
        Check.option(x, 0, 0, 1, 0, 2, 0);
        coversAre(x, 0b11, 0b100);
        Check.option(x, 2, 0, 0, 0);
        Check.option(x, 1, 0);
        coversAre(x, 0b11, 0b100, 0b11000);
    }

    private static void colourPairs() {
        for (int one = 0; one <= 15; one++) {
            for (int other = 0; other <= 15; other++) {
                ColorCover x = new ColorCover(2, 2);
                Check.option(x, 0, 0, 3, one);
                Check.option(x, 3, other, 1, 0);
                Check.due("isCover(3) with colours " + one + " and " + other, x.isCover(3), one == other && one != 0);
            }
        }
    }

    private static void threeOptionsOnOneSecondary() {
        ColorCover x = new ColorCover(3, 2);
        Check.option(x, 0, 0, 3, 4);
        Check.option(x, 1, 0, 3, 4);
        Check.option(x, 2, 0, 3, 4);
        Check.option(x, 2, 0, 3, 5);
        Check.option(x, 2, 0, 3, 0);
        Check.option(x, 2, 0, 4, 4);
        Check.option(x, 2, 0, 3, 4, 4, 0);
        coversAre(x, 0b111, 0b100011, 0b1000011);
    }

    private static void secondariesMayStayOut() {
        ColorCover x = new ColorCover(1, 3);
        Check.option(x, 0, 0);
        Check.option(x, 0, 0, 1, 0);
        Check.option(x, 0, 0, 1, 0, 2, 3, 3, 15);
        coversAre(x, 1, 2, 4);
    }

    private static void wrongMasks() {
        ColorCover x = new ColorCover(2, 0);
        for (int odd : Check.ODD_INTS) {
            Check.due("isCover(" + odd + ") without options", x.isCover(odd), false);
        }
        Check.option(x, 0, 0);
        Check.option(x, 1, 0);
        Check.due("isCover(0)", x.isCover(0), false);
        Check.due("isCover(3)", x.isCover(3), true);
        for (int bit = 2; bit < 32; bit++) {
            Check.due("isCover(3 and bit " + bit + ")", x.isCover(3 | 1 << bit), false);
            Check.due("isCover(bit " + bit + ")", x.isCover(1 << bit), false);
        }
        Check.due("isCover(-1)", x.isCover(-1), false);
    }

    private static void fullHouse() {
        ColorCover x = new ColorCover(1, 0);
        for (int opt = 0; opt < 16; opt++) {
            Check.option(x, 0, 0);
        }
        for (int bit = 0; bit < 32; bit++) {
            Check.due("isCover(bit " + bit + ")", x.isCover(1 << bit), bit < 16);
            Check.due("isCover(0 and bit " + bit + ")", x.isCover(1 | 1 << bit), bit == 0);
        }
    }

    private static void dependsOnClosedOptionsAlone() {
        ColorCover x = new ColorCover(2, 1);
        Check.option(x, 0, 0, 2, 1);
        Check.option(x, 1, 0, 2, 1);
        Check.add(x, 0, 0, 1, 0);
        coversAre(x, 3);
        Check.due("isCover(4), the pending one", x.isCover(4), false);
        Check.due("solve()", x.solve(), 1);
        coversAre(x, 3);
        Check.due("endOption()", x.endOption(), 2);
        coversAre(x, 3, 4);
        x.clearOptions();
        coversAre(x);
        Check.due("isCover(3) of what was cleared", x.isCover(3), false);
        // The same numbers with other entries: the old clash of options must be gone.
        Check.option(x, 0, 0, 1, 0);
        Check.option(x, 1, 0);
        Check.option(x, 0, 0, 2, 0);
        coversAre(x, 1, 6);
    }
}
