/** Promises 1 to 6: a new object, set, heap, smooth, wash, turnMap. */
final class HeightsTest {
    private static final Due DUE = new Due("HeightsTest");
    private static final int[][] OFF_THE_MAP = {{-1, 0}, {7, 0}, {0, -1}, {0, 7}, {7, 7},
        {Integer.MAX_VALUE, 0}, {Integer.MIN_VALUE, 0}, {0, Integer.MAX_VALUE}, {1, -7}};

    public static void main(String[] args) {
        newObject();
        set();
        heap();
        heapAtItsEnds();
        smooth();
        wash();
        washAtItsEnds();
        turnMap();
        DUE.end();
    }

    private static void newObject() {
        HillLines map = new HillLines();
        DUE.same("new: bulk", map.bulk(), 0);
        DUE.same("new: heights", Maps.heights(map), "0 0 0 0 0 0 0/".repeat(7));
        DUE.same("new: savedStates", map.savedStates(), 0);
        DUE.same("new: firstError", map.firstError(), 0);
        DUE.same("new: clearBuffer", map.clearBuffer(), 0);
        DUE.badState("new: undo", map::undo);
        DUE.badState("new: goBack(0)", () -> map.goBack(0));
        DUE.badState("new: goBack(1)", () -> map.goBack(1));
        DUE.badArgument("new: draw", map::draw);
    }

    private static void set() {
        HillLines map = new HillLines();
        DUE.same("set(0, 0, 99)", map.set(0, 0, 99), 0);
        DUE.same("set(0, 0, 0)", map.set(0, 0, 0), 99);
        DUE.same("set(6, 6, 5)", map.set(6, 6, 5), 0);
        DUE.same("set(6, 6, 5) again", map.set(6, 6, 5), 5);
        DUE.same("set(2, 4, 42)", map.set(2, 4, 42), 0);
        DUE.same("heightOf(2, 4)", map.heightOf(2, 4), 42);
        DUE.same("heightOf(4, 2)", map.heightOf(4, 2), 0);
        DUE.same("bulk", map.bulk(), 47);
        DUE.same("savedStates: a set that changes nothing counts", map.savedStates(), 5);
        for (int[] point : OFF_THE_MAP) {
            DUE.noPoint("set off the map", () -> map.set(point[0], point[1], 1));
            DUE.noPoint("set off the map, and too high", () -> map.set(point[0], point[1], 100));
        }
        DUE.badArgument("set to 100", () -> map.set(0, 0, 100));
        DUE.badArgument("set to -1", () -> map.set(0, 0, -1));
        DUE.badArgument("set to the greatest number", () -> map.set(0, 0, Integer.MAX_VALUE));
        DUE.same("savedStates after refusals", map.savedStates(), 5);
        DUE.same("bulk after refusals", map.bulk(), 47);
    }

    private static void heap() {
        HillLines hill = new HillLines();
        DUE.same("heap(3, 3, 60)", hill.heap(3, 3, 60), 13);
        DUE.same("heap: three steps away", hill.heightOf(3, 6), 0);
        DUE.same("heap: two steps away", hill.heightOf(4, 4), 20);
        DUE.same("heap: a step away", hill.heightOf(2, 3), 40);
        DUE.same("heap: there", hill.heightOf(3, 3), 60);
        DUE.same("heap(3, 3, -60)", hill.heap(3, 3, -60), 13);
        DUE.same("heap and hole", hill.bulk(), 0);
        int[][] amounts = {{1, 1, 1}, {2, 5, 6}, {3, 13, 19}, {4, 5, 12}, {5, 13, 25}, {6, 13, 38}, {7, 13, 31}, {60, 13, 380}};
        for (int[] amount : amounts) {
            HillLines up = new HillLines();
            DUE.same("heap up " + amount[0], up.heap(3, 3, amount[0]), amount[1]);
            DUE.same("heap up " + amount[0] + ": bulk", up.bulk(), amount[2]);
            HillLines down = Maps.flat(60);
            DUE.same("dig " + amount[0], down.heap(3, 3, -amount[0]), amount[1]);
            DUE.same("dig " + amount[0] + ": bulk", down.bulk(), 60 * 49 - amount[2]);
        }
    }

    private static void heapAtItsEnds() {
        HillLines map = Maps.flat(98);
        DUE.same("heap at the corner", map.heap(6, 0, 6), 6);
        DUE.same("nothing is above 99", Maps.heights(map).contains("100"), false);
        DUE.same("heap at the corner: bulk", map.bulk(), 98 * 49 + 6);
        DUE.same("heap on 99 changes nothing", Maps.flat(99).heap(3, 3, 60), 0);
        HillLines low = new HillLines();
        DUE.same("dig at 0", low.heap(0, 6, -60), 0);
        DUE.same("dig at 0 is saved", low.savedStates(), 1);
        low.set(1, 6, 10);
        DUE.same("dig below 0", low.heap(0, 6, -60), 1);
        DUE.same("dig below 0: bulk", low.bulk(), 0);
        for (int amount : new int[] {0, 61, -61, Integer.MAX_VALUE, Integer.MIN_VALUE}) {
            DUE.badArgument("heap by " + amount, () -> low.heap(0, 0, amount));
            for (int[] point : OFF_THE_MAP) {
                DUE.noPoint("heap off the map by " + amount, () -> low.heap(point[0], point[1], amount));
            }
        }
        for (int[] point : OFF_THE_MAP) {
            DUE.noPoint("heap off the map", () -> low.heap(point[0], point[1], 1));
        }
        DUE.same("savedStates after refusals", low.savedStates(), 3);
    }

    private static void smooth() {
        HillLines inner = Maps.with(3, 3, 99);
        DUE.same("smooth within", inner.smooth(), 5);
        DUE.same("smooth within: the point", inner.heightOf(3, 3), 19);
        DUE.same("smooth within: below it", inner.heightOf(4, 3), 19);
        DUE.same("smooth within: bulk", inner.bulk(), 95);
        HillLines corner = Maps.with(0, 0, 99);
        DUE.same("smooth at the corner", corner.smooth(), 3);
        DUE.same("smooth at the corner: the point", corner.heightOf(0, 0), 33);
        DUE.same("smooth at the corner: right", corner.heightOf(0, 1), 24);
        DUE.same("smooth at the corner: below", corner.heightOf(1, 0), 24);
        DUE.same("smooth at the corner: corner to corner", corner.heightOf(1, 1), 0);
        HillLines flat = Maps.flat(7);
        DUE.same("smooth a flat map", flat.smooth(), 0);
        HillLines low = Maps.with(3, 3, 4);
        DUE.same("smooth is rounded down", low.smooth(), 1);
        DUE.same("smooth is rounded down: bulk", low.bulk(), 0);
        HillLines fresh = new HillLines();
        fresh.smooth();
        DUE.same("smooth that changes nothing is saved", fresh.savedStates(), 1);
    }

    private static void wash() {
        HillLines one = Maps.with(3, 3, 10);
        DUE.same("wash(1)", one.wash(1), 1);
        DUE.same("wash(1): the point", one.heightOf(3, 3), 9);
        DUE.same("wash(1): above it", one.heightOf(2, 3), 1);
        HillLines two = Maps.with(3, 3, 10);
        DUE.same("wash(2)", two.wash(2), 2);
        DUE.same("wash(2): the point", two.heightOf(3, 3), 8);
        DUE.same("wash(2): above it", two.heightOf(2, 3), 1);
        DUE.same("wash(2): right of it", two.heightOf(3, 4), 1);
        DUE.same("wash: 1 higher gives nothing", Maps.with(3, 3, 1).wash(50), 0);
        DUE.same("wash: 2 higher gives 1", Maps.with(3, 3, 2).wash(50), 1);
        HillLines flat = new HillLines();
        DUE.same("wash a flat map", flat.wash(1), 0);
        DUE.same("wash that changes nothing is saved, once", flat.savedStates(), 1);
        flat.wash(50);
        DUE.same("wash(50) is saved once", flat.savedStates(), 2);
    }

    private static void washAtItsEnds() {
        HillLines hole = Maps.flat(99);
        hole.set(3, 3, 97);
        DUE.same("wash into a hole from four sides", hole.wash(1), 4);
        DUE.same("wash: nothing is above 99", hole.heightOf(3, 3), 99);
        DUE.same("wash: the givers", hole.heightOf(3, 2), 98);
        DUE.same("wash: what is above 99 is lost", hole.bulk(), 99 * 49 - 4);
        HillLines stairs = Maps.flat(0);
        stairs.set(0, 0, 4);
        stairs.set(0, 1, 2);
        DUE.same("wash by what was ahead of the shower", stairs.wash(1), 2);
        DUE.same("wash: stairs", Maps.heights(stairs), "3 1 1 0 0 0 0/1 0 0 0 0 0 0/" + "0 0 0 0 0 0 0/".repeat(5));
        HillLines given = Maps.with(0, 0, 9);
        given.set(0, 1, 1);
        given.set(1, 0, 5);
        given.set(1, 1, 5);
        DUE.same("wash: what is given in a shower is not given on in it", given.wash(1), 3);
        DUE.same("wash: it stays there", given.heightOf(0, 1), 2);
        DUE.same("wash: it is given on in the next shower", given.wash(1), 4);
        DUE.same("wash: the point gets and gives", given.heightOf(0, 1), 2);
        DUE.same("wash: the next one gets", given.heightOf(0, 2), 1);
        for (int showers : new int[] {0, 51, -1, Integer.MAX_VALUE, Integer.MIN_VALUE}) {
            DUE.badArgument("wash(" + showers + ")", () -> stairs.wash(showers));
        }
    }

    private static void turnMap() {
        HillLines map = Maps.with(1, 2, 5);
        map.set(0, 0, 9);
        DUE.same("turnMap", map.turnMap(), 4);
        DUE.same("turnMap: corner", map.heightOf(0, 6), 9);
        DUE.same("turnMap: (1, 2) goes to (2, 5)", map.heightOf(2, 5), 5);
        DUE.same("turnMap: bulk", map.bulk(), 14);
        DUE.same("turnMap is saved", map.savedStates(), 3);
        map.turnMap();
        DUE.same("turnMap twice", map.heightOf(6, 6), 9);
        map.turnMap();
        DUE.same("turnMap three times", map.heightOf(6, 0), 9);
        map.turnMap();
        DUE.same("turnMap four times", map.heightOf(1, 2), 5);
        HillLines flat = new HillLines();
        DUE.same("turn a flat map", flat.turnMap(), 0);
        DUE.same("turn a flat map is saved", flat.savedStates(), 1);
        DUE.same("turn with the middle alone", Maps.with(3, 3, 8).turnMap(), 0);
    }
}
