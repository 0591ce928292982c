/** Promise 2: addItem appends an entry to the pending list. */
public final class Promise02Test {
    public static void main(String[] args) {
        Check.sentence("`addItem(int item, int colour)` examines these conditions in this order"
            + " and answers with the first one that applies", Promise02Test::examinesInOrder);
        Check.sentence("If `item` is outside 0..P+S-1 (including every negative value), the answer is `ERR_ITEM`.",
            Promise02Test::itemOutside);
        Check.sentence("If `colour` is outside 0..15 (including every negative value), the answer is `ERR_COLOUR`.",
            Promise02Test::colourOutside);
        Check.sentence("If the item is primary (`item < P`) and `colour != 0`, the answer is `ERR_PRIMARY_COLOUR`.",
            Promise02Test::primaryWithColour);
        Check.sentence("If `item` is already in the pending list, with any colour, the answer is `ERR_DUPLICATE`.",
            Promise02Test::duplicate);
        Check.sentence("If (entries of all closed options) + (pending size) >= 64, the answer is `ERR_ENTRIES_FULL`.",
            Promise02Test::entriesFull);
        Check.sentence("A refused call changes nothing.", Promise02Test::refusedChangesNothing);
        Check.sentence("Otherwise the entry (item, colour) is appended at the end of the pending list",
            Promise02Test::appendsAtTheEnd);
        Check.sentence("Otherwise the pending size grows by one", Promise02Test::pendingGrows);
        Check.sentence("Otherwise the answer is `OK`.", Promise02Test::takesEveryItemAndColour);
        Check.sentence("In every case, the closed options, P, S and the results (valid or not, and their contents)"
            + " are unchanged.", Promise02Test::leavesTheRest);
        Check.finish();
    }

    private static void refused(ColorCover x, String state, int item, int colour, int answer) {
        Check.due("addItem(" + item + ", " + colour + ") in the state " + state, x.addItem(item, colour), answer);
    }

    /** Each call meets its own condition and the later one named beside it. */
    private static void examinesInOrder() {
        ColorCover x = State.ENTRIES_FULL_WITH_PENDING.make();
        String full = "64 entries, with 0/0 1/0 12/1 13/2 pending";
        refused(x, full, 20, 16, ColorCover.ERR_ITEM);             // 1 and 2
        refused(x, full, -1, -1, ColorCover.ERR_ITEM);             // 1 and 2
        refused(x, full, -1, 1, ColorCover.ERR_ITEM);              // 1 and 3
        refused(x, full, 20, 0, ColorCover.ERR_ITEM);              // 1 and 5
        refused(x, full, 2, 16, ColorCover.ERR_COLOUR);            // 2 and 3
        refused(x, full, 12, -1, ColorCover.ERR_COLOUR);           // 2 and 4
        refused(x, full, 14, 16, ColorCover.ERR_COLOUR);           // 2 and 5
        refused(x, full, 0, 1, ColorCover.ERR_PRIMARY_COLOUR);     // 3 and 4
        refused(x, full, 2, 15, ColorCover.ERR_PRIMARY_COLOUR);    // 3 and 5
        refused(x, full, 0, 0, ColorCover.ERR_DUPLICATE);          // 4 and 5
        refused(x, full, 13, 0, ColorCover.ERR_DUPLICATE);         // 4 and 5
        refused(x, full, 2, 0, ColorCover.ERR_ENTRIES_FULL);
    }

    private static void itemOutside() {
        for (State state : State.values()) {
            ColorCover x = state.make();
            int items = x.primaryCount() + x.secondaryCount();
            for (int item : Check.outside(0, items - 1)) {
                refused(x, state.name(), item, 0, ColorCover.ERR_ITEM);
                refused(x, state.name(), item, 15, ColorCover.ERR_ITEM);
            }
        }
    }

    private static void colourOutside() {
        for (State state : State.values()) {
            ColorCover x = state.make();
            int items = x.primaryCount() + x.secondaryCount();
            for (int item = 0; item < items; item++) {
                for (int colour : Check.outside(0, 15)) {
                    refused(x, state.name(), item, colour, ColorCover.ERR_COLOUR);
                }
            }
        }
    }

    private static void primaryWithColour() {
        for (State state : State.values()) {
            ColorCover x = state.make();
            for (int item = 0; item < x.primaryCount(); item++) {
                for (int colour = 1; colour <= 15; colour++) {
                    refused(x, state.name(), item, colour, ColorCover.ERR_PRIMARY_COLOUR);
                }
            }
        }
        // The first secondary item takes every colour, and the last primary item colour 0.
        for (int colour = 0; colour <= 15; colour++) {
            Check.add(new ColorCover(12, 8), 11, 0, 12, colour);
        }
    }

    private static void duplicate() {
        ColorCover x = new ColorCover(12, 8);
        Check.add(x, 19, 7, 0, 0, 11, 0, 12, 0);
        for (int item : new int[] {0, 11}) {
            refused(x, "19/7 0/0 11/0 12/0 pending", item, 0, ColorCover.ERR_DUPLICATE);
        }
        for (int colour = 0; colour <= 15; colour++) {
            refused(x, "19/7 0/0 11/0 12/0 pending", 19, colour, ColorCover.ERR_DUPLICATE);
            refused(x, "19/7 0/0 11/0 12/0 pending", 12, colour, ColorCover.ERR_DUPLICATE);
        }
        ColorCover all = State.PENDING_ALL_ITEMS.make();
        for (int item = 0; item < 20; item++) {
            refused(all, "all items pending", item, 0, ColorCover.ERR_DUPLICATE);
        }
        // An item that was closed or discarded is in the pending list no more.
        Check.close(x);
        Check.add(x, 19, 7, 0, 0);
        x.discardPending();
        Check.add(x, 19, 7, 0, 0, 11, 0, 12, 0);
    }

    private static void entriesFull() {
        ColorCover x = new ColorCover(12, 8);
        Check.optionsOfItems(x, 3, 20);
        // Entries 61 to 64 are taken, the 65th is not, wherever the 64 stand.
        Check.add(x, 19, 15, 18, 0, 17, 4, 11, 0);
        refused(x, "60 closed and 4 pending", 0, 0, ColorCover.ERR_ENTRIES_FULL);
        refused(x, "60 closed and 4 pending", 16, 15, ColorCover.ERR_ENTRIES_FULL);
        Check.due("discardPending()", x.discardPending(), 4);
        Check.option(x, 0, 0, 1, 0, 12, 1);
        Check.add(x, 0, 0);
        refused(x, "63 closed and 1 pending", 1, 0, ColorCover.ERR_ENTRIES_FULL);
        Check.close(x);
        for (int item = 0; item < 20; item++) {
            refused(x, "64 closed", item, 0, ColorCover.ERR_ENTRIES_FULL);
        }
        refused(State.ENTRIES_AND_OPTIONS_FULL.make(), "48 closed and 16 pending", 0, 0, ColorCover.ERR_ENTRIES_FULL);
        // Room comes back with clearOptions.
        x.clearOptions();
        Check.optionsOfItems(x, 3, 20);
        Check.addRange(x, 0, 3);
    }

    private static void refusedChangesNothing() {
        for (State state : State.values()) {
            PlainCover plain = state.plain();
            int lastPrimary = plain.primaries - 1;
            int last = lastPrimary + plain.secondaries;
            refusedLeaves(state, -1, 0, ColorCover.ERR_ITEM);
            refusedLeaves(state, last + 1, 0, ColorCover.ERR_ITEM);
            refusedLeaves(state, Integer.MIN_VALUE, 1, ColorCover.ERR_ITEM);
            refusedLeaves(state, 0, -1, ColorCover.ERR_COLOUR);
            refusedLeaves(state, last, 16, ColorCover.ERR_COLOUR);
            refusedLeaves(state, last, Integer.MAX_VALUE, ColorCover.ERR_COLOUR);
            refusedLeaves(state, 0, 1, ColorCover.ERR_PRIMARY_COLOUR);
            refusedLeaves(state, lastPrimary, 15, ColorCover.ERR_PRIMARY_COLOUR);
            if (!plain.pending.isEmpty()) {
                int[] newest = plain.pending.get(plain.pending.size() - 1);
                refusedLeaves(state, newest[0], newest[1], ColorCover.ERR_DUPLICATE);
            }
        }
        refusedLeaves(State.PENDING, 4, 14, ColorCover.ERR_DUPLICATE);
        refusedLeaves(State.ENTRIES_FULL_WITH_PENDING, 19, 1, ColorCover.ERR_ENTRIES_FULL);
        refusedLeaves(State.ENTRIES_FULL_WITH_PENDING, 2, 0, ColorCover.ERR_ENTRIES_FULL);
        refusedLeaves(State.ENTRIES_FULL, 0, 0, ColorCover.ERR_ENTRIES_FULL);
        refusedLeaves(State.ENTRIES_AND_OPTIONS_FULL, 0, 0, ColorCover.ERR_ENTRIES_FULL);
    }

    private static void refusedLeaves(State state, int item, int colour, int answer) {
        ColorCover x = state.make();
        refused(x, state.name(), item, colour, answer);
        Check.same("after addItem(" + item + ", " + colour + ") in the state " + state, x, state.plain());
    }

    private static void appendsAtTheEnd() {
        ColorCover x = new ColorCover(3, 3);
        Check.add(x, 5, 15, 2, 0, 3, 0, 0, 0, 4, 1, 1, 0);
        Check.close(x);
        Check.due("option 0", Check.entries(x, 0), "5/15 2/0 3/0 0/0 4/1 1/0");
        Check.add(x, 0, 0, 5, 1);
        Check.close(x);
        Check.due("option 1", Check.entries(x, 1), "0/0 5/1");
    }

    private static void pendingGrows() {
        ColorCover x = new ColorCover(12, 8);
        for (int opt = 0; opt < 3; opt++) {
            for (int item = 0; item < 20; item++) {
                Check.add(x, item, 0);
                Check.due("pendingSize()", x.pendingSize(), item + 1);
            }
            Check.close(x);
        }
        for (int item = 8; item < 12; item++) {
            Check.add(x, item, 0);
            Check.due("pendingSize()", x.pendingSize(), item - 7);
        }
    }

    private static void takesEveryItemAndColour() {
        for (int p = 1; p <= 12; p++) {
            for (int s = 0; s <= 8; s++) {
                for (int item = 0; item < p + s; item++) {
                    for (int colour = 0; colour <= (item < p ? 0 : 15); colour++) {
                        Check.add(new ColorCover(p, s), item, colour);
                    }
                }
            }
        }
        // With 16 options closed there is still room for entries.
        Check.add(State.SIXTEEN_OPTIONS_SOLVED.make(), 0, 0, 5, 15);
    }

    private static void leavesTheRest() {
        for (State state : State.values()) {
            for (int item : new int[] {-1, 0, 4, 5, 19, 20}) {
                leavesTheRest(state, item, 0);
            }
            leavesTheRest(state, 19, 15);
            leavesTheRest(state, 5, 16);
        }
    }

    private static void leavesTheRest(State state, int item, int colour) {
        ColorCover x = state.make();
        PlainCover plain = state.plain();
        String call = "addItem(" + item + ", " + colour + ") in the state " + state;
        Check.due(call, x.addItem(item, colour), plain.addItem(item, colour));
        Check.sameNow("after " + call, x, plain);
    }
}
