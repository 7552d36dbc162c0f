/** Promises 29 to 38: where points drain, sinks and basins. */
final class SlopesTest {
    private static final Due DUE = new Due("SlopesTest");

    /** Column 0 of each row, and row 6, lead down to (6, 6); all else stands high above it. */
    private static final int[][] VALLEY = {
        {70, 90, 90, 90, 90, 90, 90}, {60, 90, 90, 90, 90, 90, 90}, {50, 90, 90, 90, 90, 90, 90}, {40, 90, 90, 90, 90, 90, 90},
        {30, 90, 90, 90, 90, 90, 90}, {20, 90, 90, 90, 90, 90, 90}, {19, 18, 17, 16, 15, 14, 13}};

    public static void main(String[] args) {
        order();
        valley();
        valleyFlow();
        flat();
        basins();
        refusals();
        DUE.end();
    }

    private static void order() {
        HillLines peak = Maps.with(3, 3, 9);
        DUE.same("drainOf: above is first", peak.drainOf(3, 3), 17);
        DUE.same("dropOf", peak.dropOf(3, 3), 9);
        peak.set(2, 3, 9);
        DUE.same("drainOf: then right", peak.drainOf(3, 3), 25);
        peak.set(3, 4, 9);
        DUE.same("drainOf: then below", peak.drainOf(3, 3), 31);
        peak.set(4, 3, 9);
        DUE.same("drainOf: then left", peak.drainOf(3, 3), 23);
        DUE.same("dropOf, to the left", peak.dropOf(3, 3), 9);
        peak.set(3, 2, 9);
        DUE.same("isSink: none is lower", peak.isSink(3, 3), true);
        DUE.badState("drainOf a sink", () -> peak.drainOf(3, 3));
        DUE.same("dropOf a sink", peak.dropOf(3, 3), 0);
        peak.set(3, 2, 8);
        peak.set(4, 3, 7);
        DUE.same("drainOf: the lowest, not the first", peak.drainOf(3, 3), 31);
        DUE.same("dropOf: by the lowest", peak.dropOf(3, 3), 2);
        DUE.same("isSink no more", peak.isSink(3, 3), false);
        DUE.same("a corner drains", Maps.with(0, 0, 1).drainOf(0, 0), 1);
        DUE.same("the last corner drains", Maps.with(6, 6, 1).drainOf(6, 6), 41);
    }

    private static void valley() {
        HillLines map = Maps.of(VALLEY);
        DUE.same("drainOf(0, 0)", map.drainOf(0, 0), 7);
        DUE.same("drainOf(6, 0)", map.drainOf(6, 0), 43);
        DUE.same("drainOf(5, 5)", map.drainOf(5, 5), 47);
        DUE.same("drainOf(4, 1)", map.drainOf(4, 1), 28);
        DUE.same("isSink(6, 6)", map.isSink(6, 6), true);
        DUE.same("isSink(3, 3)", map.isSink(3, 3), true);
        DUE.same("isSink(6, 5)", map.isSink(6, 5), false);
        DUE.same("sinkOf(0, 0)", map.sinkOf(0, 0), 48);
        DUE.same("sinkOf(6, 6)", map.sinkOf(6, 6), 48);
        DUE.same("sinkOf(3, 3)", map.sinkOf(3, 3), 24);
        DUE.same("sinkOf(2, 1)", map.sinkOf(2, 1), 48);
        DUE.same("stepsToSink(0, 0)", map.stepsToSink(0, 0), 12);
        DUE.same("stepsToSink(0, 1)", map.stepsToSink(0, 1), 13);
        DUE.same("stepsToSink(6, 6)", map.stepsToSink(6, 6), 0);
        DUE.same("stepsToSink(5, 6)", map.stepsToSink(5, 6), 1);
        DUE.same("dropOf(0, 1)", map.dropOf(0, 1), 20);
        DUE.same("dropOf(5, 6)", map.dropOf(5, 6), 77);
    }

    private static void valleyFlow() {
        HillLines map = Maps.of(VALLEY);
        DUE.same("flowAt(0, 0)", map.flowAt(0, 0), 2);
        DUE.same("flowAt(1, 0)", map.flowAt(1, 0), 4);
        DUE.same("flowAt(5, 0)", map.flowAt(5, 0), 11);
        DUE.same("flowAt(6, 0)", map.flowAt(6, 0), 12);
        DUE.same("flowAt(6, 1)", map.flowAt(6, 1), 14);
        DUE.same("flowAt(6, 6)", map.flowAt(6, 6), 24);
        DUE.same("flowAt(2, 2)", map.flowAt(2, 2), 1);
        DUE.same("basinByFollowing(6, 6)", map.basinByFollowing(6, 6), 24);
        DUE.same("basinByGoingUp(6, 6)", map.basinByGoingUp(6, 6), 24);
        DUE.same("basinByFollowing: no sink", map.basinByFollowing(6, 5), 0);
        DUE.same("basinByGoingUp: no sink", map.basinByGoingUp(6, 5), 0);
        DUE.same("basinByFollowing: alone", map.basinByFollowing(3, 3), 1);
        DUE.same("basinByGoingUp: alone", map.basinByGoingUp(3, 3), 1);
        DUE.same("sinks", map.sinks(), 26);
        DUE.same("greatestBasin", map.greatestBasin(), 48);
    }

    private static void flat() {
        HillLines map = new HillLines();
        DUE.same("flat: sinks", map.sinks(), 49);
        DUE.same("flat: greatestBasin", map.greatestBasin(), 0);
        DUE.same("flat: isSink", map.isSink(3, 3), true);
        DUE.same("flat: flowAt", map.flowAt(3, 3), 1);
        DUE.same("flat: basinByFollowing", map.basinByFollowing(3, 3), 1);
        DUE.same("flat: sinkOf", map.sinkOf(3, 3), 24);
        DUE.badState("flat: drainOf", () -> map.drainOf(0, 0));
    }

    private static void basins() {
        HillLines map = Maps.flat(50);
        map.set(1, 1, 10);
        map.set(5, 5, 10);
        DUE.same("two basins: sinks", map.sinks(), 49 - 8);
        DUE.same("two basins: the first one", map.greatestBasin(), 8);
        DUE.same("two basins: size", map.basinByFollowing(5, 5), 5);
        map.set(5, 5, 9);
        DUE.same("two basins: as many points each", map.greatestBasin(), 8);
        map.set(6, 6, 60);
        DUE.same("two basins: one more", map.greatestBasin(), 40);
        DUE.same("two basins: one more, size", map.basinByGoingUp(5, 5), 6);
        map.set(0, 0, 60);
        map.set(2, 0, 60);
        DUE.same("a corner drains to its right first", map.drainOf(0, 0), 1);
        DUE.same("the first one has more again", map.greatestBasin(), 8);
        DUE.same("its points", map.flowAt(1, 1), 7);
    }

    private static void refusals() {
        HillLines map = new HillLines();
        for (int[] point : new int[][] {{-1, 0}, {7, 0}, {0, -1}, {0, 7}, {7, 7}, {Integer.MAX_VALUE, 1}, {1, Integer.MIN_VALUE}}) {
            int row = point[0];
            int column = point[1];
            DUE.noPoint("drainOf", () -> map.drainOf(row, column));
            DUE.noPoint("isSink", () -> map.isSink(row, column));
            DUE.noPoint("dropOf", () -> map.dropOf(row, column));
            DUE.noPoint("sinkOf", () -> map.sinkOf(row, column));
            DUE.noPoint("basinByFollowing", () -> map.basinByFollowing(row, column));
            DUE.noPoint("basinByGoingUp", () -> map.basinByGoingUp(row, column));
            DUE.noPoint("flowAt", () -> map.flowAt(row, column));
            DUE.noPoint("stepsToSink", () -> map.stepsToSink(row, column));
        }
    }
}
