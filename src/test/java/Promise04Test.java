/** Promise 4: discardPending empties the pending list. */
public final class Promise04Test {
    public static void main(String[] args) {
        Check.sentence("`discardPending()` empties the pending list.", Promise04Test::empties);
        Check.sentence("It answers the number of entries the list held before", Promise04Test::answersTheNumber);
        Check.sentence("or 0 if it was already empty.", Promise04Test::answersZero);
        Check.sentence("The closed options, P, S and the results (validity and contents) are unchanged.",
            Promise04Test::leavesTheRest);
        Check.finish();
    }

    private static void empties() {
        for (State state : State.values()) {
            ColorCover x = state.make();
            x.discardPending();
            Check.due("pendingSize() in the state " + state, x.pendingSize(), 0);
            Check.due("endOption() in the state " + state, x.endOption(), ColorCover.ERR_EMPTY);
        }
        // What was discarded is no duplicate, and its room is free.
        ColorCover x = State.ENTRIES_FULL_WITH_PENDING.make();
        x.discardPending();
        Check.option(x, 13, 2, 12, 1, 1, 0, 0, 0);
        Check.due("option 3", Check.entries(x, 3), "13/2 12/1 1/0 0/0");
    }

    private static void answersTheNumber() {
        for (int held = 0; held <= 20; held++) {
            ColorCover x = new ColorCover(12, 8);
            Check.option(x, 0, 0, 1, 0);
            Check.addRange(x, 0, held - 1);
            Check.due("discardPending()", x.discardPending(), held);
        }
        Check.due("discardPending() of secondary items", State.PENDING_WITHOUT_PRIMARY.make().discardPending(), 2);
        Check.due("discardPending() with 64 entries", State.ENTRIES_FULL_WITH_PENDING.make().discardPending(), 4);
        Check.due("discardPending() with all full", State.ENTRIES_AND_OPTIONS_FULL.make().discardPending(), 16);
    }

    private static void answersZero() {
        for (State state : State.values()) {
            ColorCover x = state.make();
            x.discardPending();
            Check.due("discardPending() again in the state " + state, x.discardPending(), 0);
        }
        Check.due("discardPending() of a new object", new ColorCover(1, 0).discardPending(), 0);
        Check.due("discardPending() with 16 options", State.SIXTEEN_OPTIONS.make().discardPending(), 0);
        Check.due("discardPending() with 64 entries closed", State.ENTRIES_FULL.make().discardPending(), 0);
        Check.due("discardPending() after clearOptions()", State.CLEARED.make().discardPending(), 0);
    }

    private static void leavesTheRest() {
        for (State state : State.values()) {
            ColorCover x = state.make();
            PlainCover plain = state.plain();
            x.discardPending();
            plain.discardPending();
            Check.sameNow("after discardPending() in the state " + state, x, plain);
            x.discardPending();
            Check.same("after discardPending() again in the state " + state, x, plain);
        }
    }
}
