import java.util.List;

/** Promises 11 to 14 at their boundaries, and what is undoable, a test for each sentence that names one. */
final class SnapshotsEdgesTest {
    private static final Due DUE = new Due("SnapshotsEdgesTest");

    /** Each undoable call on arguments that change a map of one needle at (1, 2). */
    private static final List<Calls.Call> UNDOABLE = List.of(Calls.call("set", 3, 3, 9), Calls.call("heap", 3, 3, -1),
        Calls.call("heap", 3, 3, 60), Calls.call("smooth"), Calls.call("wash", 50), Calls.call("turnMap"), Calls.call("draw"),
        Calls.call("goBack", 0));
    private static final List<Calls.Call> NOT_UNDOABLE = List.of(Calls.call("append", '~'), Calls.call("clearBuffer"),
        Calls.call("keep", 0), Calls.call("keep", 1));

    public static void main(String[] args) {
        keepLeastAndGreatestSlot();
        keepInPlaceOfTheOneInTheSlot();
        keepTakesACopy();
        keepLeavesAllElse();
        goBackLeastAndGreatestSlot();
        goBackToAnEmptySlot();
        goBackLeavesAllElse();
        snapshotStays();
        undoDownToNone();
        undoOfSixOutOfMany();
        undoIsNotUndoable();
        undoLeavesBufferAndSlots();
        savedStatesUpAndDown();
        undoableAlsoIfNothingChanges();
        undoableIsUndone();
        undoableWithSixSaved();
        notUndoable();
        DUE.end();
    }

    // promise 11

    private static void keepLeastAndGreatestSlot() {
        HillLines map = Maps.with(3, 3, 50);
        map.keep(0);
        map.set(3, 3, 60);
        map.keep(1);
        DUE.badArgument("keep(-1)", () -> map.keep(-1));
        DUE.badArgument("keep(2)", () -> map.keep(2));
        map.goBack(0);
        DUE.same("slot 0", map.heightOf(3, 3), 50);
        map.goBack(1);
        DUE.same("slot 1", map.heightOf(3, 3), 60);
    }

    private static void keepInPlaceOfTheOneInTheSlot() {
        for (int slot = 0; slot < 2; slot++) {
            HillLines map = Maps.numbered();
            map.keep(slot);
            map.turnMap();
            String turned = Maps.heights(map);
            map.keep(slot);
            map.turnMap();
            map.goBack(slot);
            DUE.same("the later snapshot is in the slot " + slot, Maps.heights(map), turned);
            map.keep(slot);
            map.set(0, 0, 99);
            map.goBack(slot);
            DUE.same("and the same one once more", Maps.heights(map), turned);
        }
    }

    private static void keepTakesACopy() {
        for (int height : new int[] {0, 99}) {
            HillLines map = Maps.flat(height);
            map.keep(0);
            map.keep(1);
            map.set(0, 0, 50);
            map.heap(3, 3, 60);
            map.heap(5, 5, -60);
            map.smooth();
            map.undo();
            map.goBack(1);
            DUE.same("slot 1 is as it was at " + height, map.bulk(), 49 * height);
            map.set(6, 6, 50);
            map.goBack(0);
            DUE.same("slot 0 is as it was at " + height, map.bulk(), 49 * height);
        }
    }

    private static void keepLeavesAllElse() {
        HillLines map = many();
        String before = Maps.heights(map);
        map.keep(0);
        map.keep(1);
        DUE.same("keep leaves the heights", Maps.heights(map), before);
        DUE.same("keep leaves the saved states", map.savedStates(), 6);
        DUE.same("keep leaves the buffer", map.clearBuffer(), 60);
        for (int height = 9; height >= 4; height--) {
            map.undo();
            DUE.same("keep leaves each saved state", map.heightOf(0, 0), height);
        }
    }

    /** Heights of 1 to 10, one after the other, of which six are saved; a full buffer. */
    private static HillLines many() {
        HillLines map = new HillLines();
        for (int height = 1; height <= 10; height++) {
            map.set(0, 0, height);
        }
        Maps.write(map, "~;".repeat(30));
        return map;
    }

    // promise 12

    private static void goBackLeastAndGreatestSlot() {
        HillLines map = Maps.with(3, 3, 50);
        DUE.badArgument("goBack(-1), all slots empty", () -> map.goBack(-1));
        DUE.badArgument("goBack(2), all slots empty", () -> map.goBack(2));
        map.keep(0);
        map.keep(1);
        DUE.badArgument("goBack(-1), no slot empty", () -> map.goBack(-1));
        DUE.badArgument("goBack(2), no slot empty", () -> map.goBack(2));
        DUE.same("the refused ones are not saved", map.savedStates(), 1);
        map.goBack(0);
        map.goBack(1);
        DUE.same("the others are", map.savedStates(), 3);
    }

    private static void goBackToAnEmptySlot() {
        for (int slot = 0; slot < 2; slot++) {
            int empty = 1 - slot;
            HillLines map = Maps.with(3, 3, 50);
            DUE.badState("both are empty: goBack(" + slot + ")", () -> map.goBack(empty));
            map.keep(slot);
            map.set(3, 3, 60);
            DUE.badState("one is empty: goBack(" + slot + ")", () -> map.goBack(empty));
            DUE.same("the height stays", map.heightOf(3, 3), 60);
            DUE.same("the saved states stay", map.savedStates(), 2);
            map.goBack(slot);
            DUE.same("the other one is not", map.heightOf(3, 3), 50);
            map.undo();
            DUE.badState("goBack and undo do not fill it", () -> map.goBack(empty));
        }
    }

    private static void goBackLeavesAllElse() {
        HillLines map = Maps.flat(20);
        map.keep(0);
        map.set(0, 0, 30);
        map.keep(1);
        for (int state = 0; state < 4; state++) {
            map.set(0, 0, 40 + state);
        }
        Maps.write(map, "~;".repeat(30));
        map.goBack(0);
        DUE.same("all heights go back", map.bulk(), 49 * 20);
        DUE.same("the saved states are not in the snapshot", map.savedStates(), 6);
        DUE.same("the buffer is not in the snapshot", map.clearBuffer(), 60);
        map.goBack(1);
        DUE.same("the slots are not in the snapshot", map.heightOf(0, 0), 30);
        map.undo();
        map.undo();
        DUE.same("both are undone", map.heightOf(0, 0), 43);
        map.undo();
        DUE.same("the states from before are still saved", map.heightOf(0, 0), 42);
    }

    private static void snapshotStays() {
        HillLines map = Maps.with(5, 5, 55);
        map.keep(1);
        for (int time = 1; time <= 10; time++) {
            map.set(5, 5, time);
            map.goBack(1);
            DUE.same("time " + time, map.heightOf(5, 5), 55);
            map.undo();
            DUE.same("undone, time " + time, map.heightOf(5, 5), time);
        }
    }

    // promise 13

    private static void undoDownToNone() {
        for (int states = 0; states <= 6; states++) {
            HillLines map = new HillLines();
            for (int height = 1; height <= states; height++) {
                map.set(0, 0, height);
            }
            for (int height = states - 1; height >= 0; height--) {
                map.undo();
                DUE.same("the latest of " + states, map.heightOf(0, 0), height);
                DUE.same("it is dropped", map.savedStates(), height);
            }
            DUE.badState("none is left of " + states, map::undo);
            DUE.badState("nor is there one then", map::undo);
            DUE.same("nothing is saved then", map.savedStates(), 0);
            map.set(0, 0, 77);
            map.undo();
            DUE.same("then it goes on", map.heightOf(0, 0), 0);
        }
    }

    private static void undoOfSixOutOfMany() {
        for (int calls = 6; calls <= 20; calls++) {
            HillLines map = new HillLines();
            for (int height = 1; height <= calls; height++) {
                map.set(2, 2, height);
            }
            for (int height = calls - 1; height >= calls - 6; height--) {
                map.undo();
                DUE.same("of " + calls + " calls", map.heightOf(2, 2), height);
            }
            DUE.badState("six alone of " + calls, map::undo);
            DUE.same("the seventh stays", map.heightOf(2, 2), calls - 6);
        }
        HillLines map = many();
        map.undo();
        map.set(0, 0, 77);
        DUE.same("one undone and one more are six", map.savedStates(), 6);
        map.set(0, 0, 88);
        DUE.same("with the next one they are six still", map.savedStates(), 6);
        for (int height : new int[] {77, 9, 8, 7, 6, 5}) {
            map.undo();
            DUE.same("the six latest", map.heightOf(0, 0), height);
        }
        DUE.badState("the older ones were dropped", map::undo);
    }

    private static void undoIsNotUndoable() {
        HillLines map = new HillLines();
        map.set(0, 0, 1);
        map.set(0, 0, 2);
        map.set(0, 0, 3);
        map.undo();
        map.undo();
        DUE.same("two steps back, not one back and one ahead", map.heightOf(0, 0), 1);
        map.set(0, 0, 4);
        map.undo();
        DUE.same("a new call is the latest", map.heightOf(0, 0), 1);
        map.undo();
        DUE.same("then comes the first", map.heightOf(0, 0), 0);
        DUE.badState("then there is none", map::undo);
    }

    private static void undoLeavesBufferAndSlots() {
        HillLines map = Maps.with(0, 0, 1);
        map.keep(0);
        map.set(0, 0, 2);
        map.keep(0);
        map.keep(1);
        Maps.write(map, "s00=3");
        map.undo();
        map.undo();
        DUE.same("undone", map.heightOf(0, 0), 0);
        DUE.same("undo leaves the buffer", map.draw(), 1);
        DUE.same("its order", map.heightOf(0, 0), 3);
        map.undo();
        DUE.same("undo does not bring the buffer back", map.clearBuffer(), 0);
        map.goBack(0);
        DUE.same("undo leaves slot 0", map.heightOf(0, 0), 2);
        map.undo();
        map.goBack(1);
        DUE.same("undo leaves slot 1", map.heightOf(0, 0), 2);
    }

    // promise 14

    private static void savedStatesUpAndDown() {
        HillLines map = new HillLines();
        DUE.same("none at first", map.savedStates(), 0);
        for (int calls = 1; calls <= 30; calls++) {
            map.smooth();
            DUE.same("after " + calls + " calls", map.savedStates(), calls < 6 ? calls : 6);
        }
        for (int states = 5; states >= 0; states--) {
            map.undo();
            DUE.same("down to " + states, map.savedStates(), states);
        }
        DUE.badState("not below 0", map::undo);
        DUE.same("0 again", map.savedStates(), 0);
    }

    // terms: snapshots and undo

    private static void undoableAlsoIfNothingChanges() {
        List<Calls.Call> same = List.of(Calls.call("set", 0, 0, 0), Calls.call("heap", 3, 3, -60), Calls.call("smooth"),
            Calls.call("wash", 1), Calls.call("wash", 50), Calls.call("turnMap"), Calls.call("draw"), Calls.call("goBack", 0));
        for (Calls.Call call : same) {
            HillLines map = new HillLines();
            map.keep(0);
            Maps.write(map, "~;s66=0;d33*60");
            call.on(map);
            DUE.same(call + " changes nothing", map.bulk(), 0);
            DUE.same(call + " is saved", map.savedStates(), 1);
            call.on(map);
            DUE.same(call + " is saved again, if it is not refused", map.savedStates(), call.name().equals("draw") ? 1 : 2);
        }
    }

    private static HillLines needle() {
        HillLines map = new HillLines();
        map.keep(0);
        map.keep(1);
        map.set(1, 2, 50);
        Maps.write(map, "s00=1;h33*7;~");
        return map;
    }

    private static void undoableIsUndone() {
        for (Calls.Call call : UNDOABLE) {
            HillLines map = needle();
            String before = Maps.heights(map);
            call.on(map);
            DUE.same(call + " is saved", map.savedStates(), 2);
            DUE.same(call + " changes heights", Maps.heights(map).equals(before), call.name().equals("heap") && call.arguments()[2] < 0);
            map.undo();
            DUE.same(call + " is undone", Maps.heights(map), before);
            DUE.same(call + " is dropped", map.savedStates(), 1);
            map.undo();
            DUE.same(call + ": the state before", map.bulk(), 0);
            DUE.badState(call + ": then none", map::undo);
        }
    }

    private static void undoableWithSixSaved() {
        for (Calls.Call call : UNDOABLE) {
            HillLines map = needle();
            for (int height = 1; height <= 6; height++) {
                map.set(6, 6, height);
            }
            call.on(map);
            DUE.same(call + ": six are saved", map.savedStates(), 6);
            for (int height = 6; height >= 1; height--) {
                map.undo();
                DUE.same(call + ": back to " + height, map.heightOf(6, 6), height);
            }
            DUE.badState(call + ": the oldest one is dropped", map::undo);
        }
    }

    private static void notUndoable() {
        for (Calls.Call call : NOT_UNDOABLE) {
            checkNotUndoable(call);
        }
        for (Calls.Call call : Calls.readings()) {
            checkNotUndoable(call);
        }
    }

    private static void checkNotUndoable(Calls.Call call) {
        HillLines map = needle();
        call.on(map);
        DUE.same(call + " is not saved", map.savedStates(), 1);
        DUE.same(call + " leaves the heights", map.heightOf(1, 2), 50);
        map.undo();
        DUE.same(call + ": what was ahead of it is undone", map.bulk(), 0);
        call.on(map);
        DUE.same(call + " is not saved, where none is", map.savedStates(), 0);
    }
}
