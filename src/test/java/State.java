import java.util.function.IntBinaryOperator;

/** The states that the document's sentences tell apart: new, empty, full, solved, cleared and between. */
enum State {
    SMALLEST(1, 0, ""),
    LARGEST(12, 8, ""),
    PENDING(3, 2, "4/15 0/0 3/0"),
    PENDING_WITHOUT_PRIMARY(3, 2, "4/15 3/0"),
    PENDING_ALL_ITEMS(12, 8, items(0, 19)),
    SOLVED_NOTHING(3, 2, "solve"),
    SOLVED_NOTHING_AND_PENDING(3, 2, "0/0 solve"),
    SOLVED_WITHOUT_COVERS(2, 1, "0/0 end 2/1 0/0 end solve"),
    NOT_SOLVED(2, 1, threeOptions()),
    SOLVED(2, 1, threeOptions() + "solve"),
    SOLVED_AND_PENDING(2, 1, threeOptions() + "2/5 1/0 solve"),
    SOLVED_AND_PENDING_WITHOUT_PRIMARY(2, 1, threeOptions() + "solve 2/5"),
    NO_LONGER_SOLVED(2, 1, threeOptions() + "solve 0/0 1/0 end 1/0"),
    SIXTEEN_OPTIONS(5, 1, sixteenOptions()),
    SIXTEEN_OPTIONS_SOLVED(5, 1, sixteenOptions() + "solve"),
    SIXTEEN_OPTIONS_SOLVED_AND_PENDING(5, 1, sixteenOptions() + "solve 5/7 0/0"),
    SIXTEEN_OPTIONS_AND_PENDING_WITHOUT_PRIMARY(5, 1, sixteenOptions() + "5/7"),
    ENTRIES_FULL(12, 8, sixtyEntries() + "19/15 18/0 17/4 11/0 end solve"),
    ENTRIES_FULL_WITH_PENDING(12, 8, sixtyEntries() + "solve 0/0 1/0 12/1 13/2"),
    ENTRIES_AND_OPTIONS_FULL(12, 8, "0/0 1/0 2/0 end ".repeat(16) + "solve " + items(4, 19)),
    CLEARED(5, 1, sixteenOptions() + "solve 4/0 5/3 clear");

    private final int primaries;
    private final int secondaries;
    private final String calls;

    State(int primaries, int secondaries, String calls) {
        this.primaries = primaries;
        this.secondaries = secondaries;
        this.calls = calls;
    }

    ColorCover make() {
        ColorCover x = new ColorCover(primaries, secondaries);
        play(x::addItem, x::endOption, x::solve, x::clearOptions);
        return x;
    }

    /** The same state as the document has it. */
    PlainCover plain() {
        PlainCover plain = new PlainCover(primaries, secondaries);
        play(plain::addItem, plain::endOption, plain::solve, plain::clearOptions);
        return plain;
    }

    String sizes() {
        return primaries + "+" + secondaries;
    }

    private void play(IntBinaryOperator addItem, Runnable endOption, Runnable solve, Runnable clearOptions) {
        for (String call : calls.trim().split(" +")) {
            if (call.equals("end")) {
                endOption.run();
            } else if (call.equals("solve")) {
                solve.run();
            } else if (call.equals("clear")) {
                clearOptions.run();
            } else if (!call.isEmpty()) {
                int slash = call.indexOf('/');
                addItem.applyAsInt(Integer.parseInt(call.substring(0, slash)),
                    Integer.parseInt(call.substring(slash + 1)));
            }
        }
    }

    private static String items(int first, int last) {
        StringBuilder text = new StringBuilder();
        for (int item = first; item <= last; item++) {
            text.append(item).append("/0 ");
        }
        return text.toString();
    }

    private static String threeOptions() {
        return "0/0 2/5 end 2/5 1/0 end 1/0 2/4 end ";
    }

    /** As many covers as sixteen options can have, 3 * 3 * 3 * 3 * 4 = 324. */
    private static String sixteenOptions() {
        return "0/0 end ".repeat(3) + "1/0 end ".repeat(3) + "2/0 end ".repeat(3) + "3/0 end ".repeat(3)
            + "4/0 end ".repeat(4);
    }

    private static String sixtyEntries() {
        return (items(0, 19) + "end ").repeat(3);
    }
}
