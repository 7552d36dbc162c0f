/** Promises 11 to 14: keep, goBack, undo, savedStates. */
final class SnapshotsTest {
    private static final Due DUE = new Due("SnapshotsTest");
    private static final int[] NO_SLOTS = {-1, 2, Integer.MAX_VALUE, Integer.MIN_VALUE};

    public static void main(String[] args) {
        keepAndGoBack();
        slotsAreApart();
        undo();
        sixStates();
        whatIsNotUndoable();
        DUE.end();
    }

    private static void keepAndGoBack() {
        HillLines map = Maps.with(2, 3, 11);
        Maps.write(map, "s0");
        map.keep(0);
        DUE.same("keep is not undoable", map.savedStates(), 1);
        map.set(2, 3, 22);
        map.set(6, 6, 1);
        map.goBack(0);
        DUE.same("goBack", map.heightOf(2, 3), 11);
        DUE.same("goBack, all of it", map.bulk(), 11);
        DUE.same("goBack is undoable", map.savedStates(), 4);
        map.undo();
        DUE.same("goBack undone", map.bulk(), 23);
        map.goBack(0);
        DUE.same("the snapshot stays", map.bulk(), 11);
        DUE.same("the buffer is not in it", map.clearBuffer(), 2);
        map.set(0, 0, 3);
        map.keep(0);
        map.set(0, 0, 4);
        map.goBack(0);
        DUE.same("keep in place of the one in the slot", map.bulk(), 14);
        map.goBack(0);
        DUE.same("goBack that changes nothing", map.bulk(), 14);
        for (int slot : NO_SLOTS) {
            DUE.badArgument("keep(" + slot + ")", () -> map.keep(slot));
            DUE.badArgument("goBack(" + slot + ")", () -> map.goBack(slot));
        }
        DUE.badState("goBack to an empty slot", () -> map.goBack(1));
        DUE.same("savedStates", map.savedStates(), 6);
    }

    private static void slotsAreApart() {
        HillLines map = new HillLines();
        map.keep(1);
        DUE.badState("slot 0 is empty", () -> map.goBack(0));
        DUE.same("a refusal saves nothing", map.savedStates(), 0);
        map.set(0, 0, 5);
        map.keep(0);
        map.set(0, 0, 6);
        map.goBack(1);
        DUE.same("slot 1", map.bulk(), 0);
        map.goBack(0);
        DUE.same("slot 0", map.bulk(), 5);
        map.undo();
        map.undo();
        map.undo();
        map.undo();
        DUE.same("all undone", map.bulk(), 0);
        map.goBack(0);
        DUE.same("undo leaves the slots", map.bulk(), 5);
    }

    private static void undo() {
        HillLines map = new HillLines();
        DUE.badState("undo of nothing", map::undo);
        map.set(1, 1, 9);
        map.heap(3, 3, 3);
        map.smooth();
        map.turnMap();
        map.wash(3);
        DUE.same("savedStates", map.savedStates(), 5);
        map.undo();
        map.undo();
        map.undo();
        DUE.same("undo three times", map.bulk(), 9 + 19);
        DUE.same("savedStates after three", map.savedStates(), 2);
        map.undo();
        DUE.same("undo four times", map.bulk(), 9);
        map.undo();
        DUE.same("undo five times", map.bulk(), 0);
        DUE.badState("undo once more", map::undo);
        DUE.same("savedStates at the end", map.savedStates(), 0);
        map.set(0, 0, 1);
        Maps.write(map, "~;");
        map.undo();
        DUE.same("undo leaves the buffer", map.clearBuffer(), 2);
    }

    private static void sixStates() {
        HillLines map = new HillLines();
        for (int height = 1; height <= 9; height++) {
            map.set(0, 0, height);
            DUE.same("savedStates", map.savedStates(), Math.min(6, height));
        }
        for (int height = 8; height >= 3; height--) {
            map.undo();
            DUE.same("the latest first", map.heightOf(0, 0), height);
        }
        DUE.badState("the oldest ones are dropped", map::undo);
        DUE.same("the height stays", map.heightOf(0, 0), 3);
    }

    private static void whatIsNotUndoable() {
        HillLines map = Maps.with(3, 3, 50);
        map.keep(0);
        map.append('s');
        map.firstError();
        map.clearBuffer();
        map.summit();
        map.digest();
        map.lookout();
        map.linesByTracing(3);
        map.spillByLevels(3, 3);
        DUE.same("savedStates", map.savedStates(), 1);
        DUE.same("nothing is changed", map.bulk(), 50);
    }
}
