/** Promises 44 to 51: cuts, climbs, sights, the mean drop. */
final class CutsTest {
    private static final Due DUE = new Due("CutsTest");

    public static void main(String[] args) {
        points();
        climbAndPass();
        sees();
        seesIsNotRounded();
        seenFrom();
        meanDrop();
        refusals();
        DUE.end();
    }

    private static void points() {
        HillLines map = Maps.numbered();
        int[][] cuts = {
            {0, 0, 6, 6, 0, 8, 16, 24, 32, 40, 48},
            {3, 3, 3, 3, 24},
            {0, 6, 4, 1, 6, 12, 18, 17, 23, 29},
            {6, 2, 1, 5, 44, 38, 31, 25, 18, 12},
            {2, 0, 3, 6, 14, 15, 16, 24, 25, 26, 27},
            {3, 6, 2, 0, 27, 26, 25, 24, 16, 15, 14},
            {0, 0, 1, 2, 0, 8, 9},
            {1, 2, 0, 0, 9, 8, 0},
            {0, 0, 0, 1, 0, 1},
            {6, 6, 6, 0, 48, 47, 46, 45, 44, 43, 42},
            {0, 3, 6, 3, 3, 10, 17, 24, 31, 38, 45},
            {0, 0, 4, 6, 0, 8, 9, 17, 25, 26, 34},
        };
        for (int[] cut : cuts) {
            String name = "cut from " + cut[0] + ", " + cut[1] + " to " + cut[2] + ", " + cut[3];
            int length = cut.length - 4;
            DUE.same(name + ": length", map.cutLength(cut[0], cut[1], cut[2], cut[3]), length);
            for (int at = 0; at < length; at++) {
                DUE.same(name + ": height " + at, map.cutHeight(cut[0], cut[1], cut[2], cut[3], at), cut[4 + at]);
            }
            for (int at : new int[] {-1, length, length + 1, Integer.MAX_VALUE, Integer.MIN_VALUE}) {
                DUE.noPoint(name + ": no height " + at, () -> map.cutHeight(cut[0], cut[1], cut[2], cut[3], at));
            }
        }
    }

    private static void climbAndPass() {
        HillLines map = Maps.of("1325.64", ".......", ".......", ".......", ".......", ".......", "9......");
        DUE.same("climb to the right", map.climb(0, 0, 0, 6), 20 + 30 + 60);
        DUE.same("climb to the left", map.climb(0, 6, 0, 0), 20 + 50 + 10);
        DUE.same("climb down", map.climb(6, 0, 3, 0), 0);
        DUE.same("climb up", map.climb(3, 0, 6, 0), 90);
        DUE.same("climb of one point", map.climb(6, 0, 6, 0), 0);
        DUE.same("pass", map.pass(0, 0, 0, 6), 60);
        DUE.same("pass at the first point", map.pass(0, 3, 0, 4), 50);
        DUE.same("pass at the last point", map.pass(1, 0, 6, 0), 90);
        DUE.same("pass of one point", map.pass(6, 0, 6, 0), 90);
        DUE.same("pass of nothing", map.pass(2, 0, 2, 6), 0);
    }

    private static void sees() {
        HillLines map = Maps.of("1..2..1", ".......", ".......", ".......", ".......", ".......", ".......");
        DUE.same("sees over a hill", map.sees(0, 0, 0, 6), false);
        DUE.same("sees the hill", map.sees(0, 0, 0, 3), true);
        DUE.same("sees a neighbour", map.sees(0, 2, 0, 3), true);
        DUE.same("sees itself", map.sees(0, 3, 0, 3), true);
        map.set(0, 3, 10);
        DUE.same("as high as the line", map.sees(0, 0, 0, 6), true);
        map.set(0, 3, 11);
        DUE.same("higher than the line", map.sees(0, 0, 0, 6), false);
        map.set(0, 3, 10);
        map.set(0, 1, 11);
        DUE.same("the first between", map.sees(0, 0, 0, 6), false);
        map.set(0, 1, 0);
        map.set(0, 5, 11);
        DUE.same("the last between", map.sees(0, 0, 0, 6), false);
        DUE.same("down to the flat", map.sees(0, 5, 6, 5), true);
        DUE.same("up from the flat", map.sees(6, 5, 0, 5), true);
        HillLines ties = Maps.with(1, 1, 5);
        DUE.same("the cut goes by (1, 1)", ties.sees(0, 0, 1, 2), false);
        DUE.same("the cut goes by (1, 1), too", ties.sees(1, 2, 0, 0), false);
        DUE.same("the cut goes by (1, 2)", ties.sees(0, 1, 2, 2), true);
    }

    private static void seesIsNotRounded() {
        HillLines map = new HillLines();
        map.set(0, 3, 1);
        map.set(0, 2, 1);
        DUE.same("two thirds are below 1", map.sees(0, 0, 0, 3), false);
        map.set(0, 3, 2);
        DUE.same("four thirds are not", map.sees(0, 0, 0, 3), true);
        map.set(0, 1, 1);
        DUE.same("two thirds are below 1, at the first", map.sees(0, 0, 0, 3), false);
        map.set(0, 3, 3);
        DUE.same("as high as the line", map.sees(0, 0, 0, 3), true);
        DUE.same("as high as the line, back", map.sees(0, 3, 0, 0), true);
    }

    private static void seenFrom() {
        HillLines flat = new HillLines();
        DUE.same("seenFrom on a flat map", flat.seenFrom(3, 3), 48);
        DUE.same("seenFrom on a flat map, at the corner", flat.seenFrom(0, 0), 48);
        DUE.same("lookout on a flat map", flat.lookout(), 0);
        HillLines hill = Maps.with(3, 3, 50);
        DUE.same("seenFrom a hill", hill.seenFrom(3, 3), 48);
        DUE.same("lookout on a hill", hill.lookout(), 24);
        DUE.same("seenFrom behind a hill", hill.seenFrom(3, 2), 48 - 9);
        HillLines wall = Maps.of(".......", ".......", ".......", "9999999", ".......", ".......", ".......");
        DUE.same("seenFrom behind a wall", wall.seenFrom(0, 0), 20 + 6);
        DUE.same("lookout on a wall", wall.lookout(), 24);
        DUE.same("seenFrom the wall", wall.seenFrom(3, 0), 6 + 12 + 15);
    }

    private static void meanDrop() {
        HillLines map = new HillLines();
        DUE.same("meanDrop of a flat map", map.meanDrop(), 0.0);
        map.heap(3, 3, 60);
        DUE.same("meanDrop of a hill", map.meanDrop(), 260.0 / 49);
        HillLines needle = Maps.with(0, 0, 99);
        DUE.same("meanDrop of a needle", needle.meanDrop(), 99.0 / 49);
        DUE.same("meanDrop of a little", Maps.with(6, 6, 1).meanDrop(), 1.0 / 49);
    }

    private static void refusals() {
        HillLines map = new HillLines();
        int[][] wrong = {{-1, 0, 0, 0}, {7, 0, 0, 0}, {0, -1, 0, 0}, {0, 7, 0, 0}, {0, 0, -1, 0}, {0, 0, 7, 0}, {0, 0, 0, -1},
            {0, 0, 0, 7}, {Integer.MAX_VALUE, 0, 0, 0}, {0, 0, 0, Integer.MIN_VALUE}};
        for (int[] ends : wrong) {
            DUE.noPoint("cutLength", () -> map.cutLength(ends[0], ends[1], ends[2], ends[3]));
            DUE.noPoint("cutHeight", () -> map.cutHeight(ends[0], ends[1], ends[2], ends[3], 0));
            DUE.noPoint("climb", () -> map.climb(ends[0], ends[1], ends[2], ends[3]));
            DUE.noPoint("pass", () -> map.pass(ends[0], ends[1], ends[2], ends[3]));
            DUE.noPoint("sees", () -> map.sees(ends[0], ends[1], ends[2], ends[3]));
        }
        for (int[] point : new int[][] {{-1, 0}, {7, 0}, {0, -1}, {0, 7}}) {
            DUE.noPoint("seenFrom", () -> map.seenFrom(point[0], point[1]));
        }
    }
}
