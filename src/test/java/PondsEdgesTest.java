/** Promises 39 to 43 at their boundaries, a test for each sentence that names one. */
final class PondsEdgesTest {
    private static final Due DUE = new Due("PondsEdgesTest");

    public static void main(String[] args) {
        flatAtEachHeight();
        pitAtEachPoint();
        standsAtThePointItselfAtLeast();
        leastOfTheWays();
        greatestOnTheWay();
        gapAtEachPointOfTheRim();
        notCornerToCorner();
        noWayRoundTheMap();
        longWaysTurned();
        levels0And99();
        waterLeastAndMost();
        pondsLeastAndMost();
        pondsHangTogether();
        noSuchPoint();
        DUE.end();
    }

    private static void spill(String name, HillLines map, int row, int column, int height) {
        DUE.same(name + ": spillByWays", map.spillByWays(row, column), height);
        DUE.same(name + ": spillByLevels", map.spillByLevels(row, column), height);
        DUE.same(name + ": depthOf", map.depthOf(row, column), height - map.heightOf(row, column));
    }

    private static boolean atBorder(int point) {
        return point / 7 == 0 || point / 7 == 6 || point % 7 == 0 || point % 7 == 6;
    }

    private static void flatAtEachHeight() {
        for (int height : new int[] {0, 1, 50, 98, 99}) {
            HillLines map = Maps.flat(height);
            for (int point = 0; point < 49; point++) {
                spill("flat at " + height + ", the point " + point, map, point / 7, point % 7, height);
            }
            DUE.same("flat at " + height + ": water", map.water(), 0);
            DUE.same("flat at " + height + ": ponds", map.ponds(), 0);
        }
    }

    /** Water runs off from the 24 points of the border alone. */
    private static void pitAtEachPoint() {
        for (int point = 0; point < 49; point++) {
            int row = point / 7;
            int column = point % 7;
            for (int[] heights : new int[][] {{99, 0}, {99, 98}, {1, 0}, {50, 49}}) {
                HillLines map = Maps.flat(heights[0]);
                map.set(row, column, heights[1]);
                int stands = atBorder(point) ? heights[1] : heights[0];
                String name = "a pit of " + heights[1] + " in " + heights[0] + " at " + point;
                spill(name, map, row, column, stands);
                DUE.same(name + ": water", map.water(), stands - heights[1]);
                DUE.same(name + ": ponds", map.ponds(), atBorder(point) ? 0 : 1);
            }
        }
    }

    private static void standsAtThePointItselfAtLeast() {
        for (int point = 0; point < 49; point++) {
            int row = point / 7;
            int column = point % 7;
            for (int height : new int[] {1, 99}) {
                HillLines map = Maps.with(row, column, height);
                spill("a needle of " + height + " at " + point, map, row, column, height);
                DUE.same("a needle holds no water", map.water(), 0);
            }
        }
        HillLines island = Maps.of("9999999", "9.....9", "9.....9", "9..8..9", "9.....9", "9.....9", "9999999");
        spill("an island under water", island, 3, 3, 90);
        DUE.same("an island under water: depth", island.depthOf(3, 3), 10);
        island.set(3, 3, 90);
        spill("an island as high as the water", island, 3, 3, 90);
        DUE.same("an island as high as the water: depth", island.depthOf(3, 3), 0);
        island.set(3, 3, 91);
        spill("an island above the water", island, 3, 3, 91);
        spill("beside it", island, 3, 2, 90);
        DUE.same("an island above the water: depth", island.depthOf(3, 3), 0);
    }

    /** A pit in the middle, and four ways from it to the border. */
    private static void leastOfTheWays() {
        int[][] ends = {{0, 3}, {3, 6}, {6, 3}, {3, 0}};
        for (int least = 0; least < 4; least++) {
            HillLines map = Maps.of("999.999", "999.999", "999.999", ".......", "999.999", "999.999", "999.999");
            for (int end = 0; end < 4; end++) {
                map.set(ends[end][0], ends[end][1], end == least ? 30 : 31);
            }
            spill("the least of four ways", map, 3, 3, 30);
            map.set(ends[least][0], ends[least][1], 31);
            spill("four ways alike", map, 3, 3, 31);
            map.set(ends[least][0], ends[least][1], 32);
            spill("the least of the three others", map, 3, 3, 31);
        }
    }

    private static void greatestOnTheWay() {
        for (int high = 0; high < 3; high++) {
            HillLines map = Maps.of("999.999", "999.999", "999.999", "999.999", "9999999", "9999999", "9999999");
            map.set(high, 3, 40);
            for (int row = 0; row <= 3; row++) {
                spill("40 on the way in the row " + high + ", at the row " + row, map, row, 3, row < high ? 0 : 40);
            }
        }
    }

    private static void gapAtEachPointOfTheRim() {
        int[][] rim = {{0, 1}, {0, 3}, {0, 5}, {1, 6}, {3, 6}, {5, 6}, {6, 5}, {6, 3}, {6, 1}, {5, 0}, {3, 0}, {1, 0}};
        for (int[] gap : rim) {
            HillLines map = bowl();
            for (int height : new int[] {98, 50, 1, 0}) {
                map.set(gap[0], gap[1], height);
                spill("a gap of " + height, map, 3, 3, height);
                DUE.same("a gap of " + height + ": water", map.water(), 25 * height);
            }
        }
        for (int[] corner : new int[][] {{0, 0}, {0, 6}, {6, 0}, {6, 6}}) {
            HillLines map = bowl();
            map.set(corner[0], corner[1], 0);
            spill("a gap at a corner is none", map, 1, 1, 99);
            spill("a gap at a corner is none", map, 5, 5, 99);
        }
    }

    private static HillLines bowl() {
        HillLines map = Maps.flat(99);
        for (int point = 0; point < 49; point++) {
            if (!atBorder(point)) {
                map.set(point / 7, point % 7, 0);
            }
        }
        return map;
    }

    private static void notCornerToCorner() {
        HillLines map = Maps.of("9999999", "9999999", "99.9999", "999.999", "9999.99", "99999.9", "999999.");
        for (int place = 2; place <= 5; place++) {
            spill("corner to corner, at " + place, map, place, place, 90);
        }
        spill("at the border", map, 6, 6, 0);
        DUE.same("corner to corner: ponds", map.ponds(), 4);
        DUE.same("corner to corner: water", map.water(), 360);
    }

    private static void noWayRoundTheMap() {
        HillLines map = Maps.flat(99);
        map.set(2, 5, 0);
        map.set(2, 6, 50);
        map.set(3, 0, 0);
        map.set(3, 1, 20);
        spill("the end of a row does not lead on to the next one", map, 2, 5, 50);
        spill("the first point of a row", map, 3, 1, 20);
        map.set(2, 6, 99);
        spill("nor, if it is closed", map, 2, 5, 99);
    }

    /** However the ways wind, and from whichever side they are told. */
    private static void longWaysTurned() {
        HillLines in = Maps.of("9999999", "7.....9", "99999.9", "9.....9", "9.99999", "9.....9", "9999999");
        HillLines round = Maps.of("9999999", "9.....9", "9.999.9", "9.9.9.9", "9.9...9", "9.99999", "9399999");
        for (int turned = 0; turned < 4; turned++) {
            DUE.same("to and fro: water", in.water(), 17 * 70);
            DUE.same("to and fro: ponds", in.ponds(), 1);
            DUE.same("round and round: water", round.water(), 15 * 30);
            DUE.same("round and round: ponds", round.ponds(), 1);
            for (int point = 0; point < 49; point++) {
                if (!atBorder(point) && in.heightOf(point / 7, point % 7) == 0) {
                    spill("to and fro, " + point, in, point / 7, point % 7, 70);
                }
                if (!atBorder(point) && round.heightOf(point / 7, point % 7) == 0) {
                    spill("round and round, " + point, round, point / 7, point % 7, 30);
                }
            }
            in.turnMap();
            round.turnMap();
        }
    }

    private static void levels0And99() {
        HillLines map = bowl();
        spill("the least level that leads off is 99", map, 3, 3, 99);
        spill("the rim", map, 0, 0, 99);
        map.set(3, 0, 98);
        spill("the least level that leads off is 98", map, 3, 3, 98);
        spill("the rim is as high as before", map, 0, 0, 99);
        map.set(3, 0, 0);
        spill("the least level that leads off is 0", map, 3, 3, 0);
        map.set(3, 0, 1);
        spill("the least level that leads off is 1", map, 3, 3, 1);
    }

    private static void waterLeastAndMost() {
        DUE.same("the least water", new HillLines().water(), 0);
        DUE.same("the most water", bowl().water(), 25 * 99);
        DUE.same("the most water at a point", bowl().depthOf(1, 1), 99);
        DUE.same("none at the rim", bowl().depthOf(0, 1), 0);
        HillLines low = Maps.flat(99);
        low.set(5, 5, 98);
        DUE.same("a little water", low.water(), 1);
        DUE.same("a little pond", low.ponds(), 1);
        DUE.same("a little depth", low.depthOf(5, 5), 1);
    }

    private static void pondsLeastAndMost() {
        DUE.same("no pond", Maps.flat(99).ponds(), 0);
        DUE.same("one pond of all within", bowl().ponds(), 1);
        DUE.same("13 ponds", Maps.of("9999999", "9.9.9.9", "99.9.99", "9.9.9.9", "99.9.99", "9.9.9.9", "9999999").ponds(), 13);
        DUE.same("12 ponds", Maps.of("9999999", "99.9.99", "9.9.9.9", "99.9.99", "9.9.9.9", "99.9.99", "9999999").ponds(), 12);
    }

    private static void pondsHangTogether() {
        HillLines map = Maps.of("9999999", "9..9..9", "9..9..9", "9999999", "9..9..9", "9..9..9", "9999999");
        DUE.same("four ponds", map.ponds(), 4);
        map.set(1, 3, 89);
        DUE.same("two hang together by a point of little depth", map.ponds(), 3);
        map.set(1, 3, 90);
        DUE.same("a point without water holds them apart", map.ponds(), 4);
        map.set(3, 3, 0);
        DUE.same("corner to corner they stay apart", map.ponds(), 5);
        map.set(3, 2, 0);
        DUE.same("three hang together", map.ponds(), 3);
        map.set(0, 1, 0);
        DUE.same("one runs off", map.ponds(), 2);
        DUE.same("the last pond is one", Maps.of("9999999", "9999999", "9999999", "9999999", "9999999", "99999.9", "9999999").ponds(), 1);
    }

    private static void noSuchPoint() {
        HillLines map = bowl();
        for (int[] point : new int[][] {{-1, 0}, {7, 0}, {0, -1}, {0, 7}, {3, 7}, {4, -1}, {-1, 7}, {7, -1}}) {
            DUE.noPoint("spillByWays", () -> map.spillByWays(point[0], point[1]));
            DUE.noPoint("spillByLevels", () -> map.spillByLevels(point[0], point[1]));
            DUE.noPoint("depthOf", () -> map.depthOf(point[0], point[1]));
        }
    }
}
