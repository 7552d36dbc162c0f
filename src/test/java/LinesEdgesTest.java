/** Promises 20 to 28 at their boundaries, a test for each sentence that names one. */
final class LinesEdgesTest {
    private static final Due DUE = new Due("LinesEdgesTest");

    public static void main(String[] args) {
        leastAndGreatestLevel();
        eachLevel();
        noneAndAllAbove();
        needleAndPitAtEachPoint();
        noWayRoundTheMap();
        eachPatternInEachSquare();
        noSuchSquare();
        fourCrossedEdges();
        mostCrossings();
        mostHollows();
        longestOfSeveral();
        endsAtTheBorder();
        DUE.end();
    }

    /** What is due: edges, lines, closed lines, pieces of the longest one, hills, hollows. */
    private static void shape(String name, HillLines map, int level, int... due) {
        DUE.same(name + ": crossingsByEdges", map.crossingsByEdges(level), due[0]);
        DUE.same(name + ": crossingsByPieces", map.crossingsByPieces(level), due[0]);
        DUE.same(name + ": linesByTracing", map.linesByTracing(level), due[1]);
        DUE.same(name + ": linesByRegions", map.linesByRegions(level), due[1]);
        DUE.same(name + ": closedLines", map.closedLines(level), due[2]);
        DUE.same(name + ": longestLine", map.longestLine(level), due[3]);
        DUE.same(name + ": hills", map.hills(level), due[4]);
        DUE.same(name + ": hollows", map.hollows(level), due[5]);
    }

    private static void leastAndGreatestLevel() {
        shape("1 at the level 0", Maps.with(3, 3, 1), 0, 4, 1, 1, 4, 1, 1);
        shape("0 at the level 0", new HillLines(), 0, 0, 0, 0, 0, 0, 1);
        shape("99 at the level 98", Maps.with(3, 3, 99), 98, 4, 1, 1, 4, 1, 1);
        shape("98 at the level 98", Maps.with(3, 3, 98), 98, 0, 0, 0, 0, 0, 1);
        HillLines map = Maps.with(3, 3, 99);
        for (String name : Calls.OF_LEVEL) {
            DUE.same(name + " at the level -1", Calls.call(name, -1).on(map), IllegalArgumentException.class);
            DUE.same(name + " at the level 99", Calls.call(name, 99).on(map), IllegalArgumentException.class);
        }
        DUE.same("piecesIn at the level 0", map.piecesIn(3, 3, 0), 1);
        DUE.same("piecesIn at the level 98", map.piecesIn(3, 3, 98), 1);
        DUE.badArgument("piecesIn at the level -1", () -> map.piecesIn(3, 3, -1));
        DUE.badArgument("piecesIn at the level 99", () -> map.piecesIn(3, 3, 99));
    }

    private static void eachLevel() {
        for (int level = 0; level <= 98; level++) {
            HillLines map = Maps.flat(level);
            map.set(2, 4, level + 1);
            shape("1 above the level " + level, map, level, 4, 1, 1, 4, 1, 1);
            DUE.same("piecesIn at the level " + level, map.piecesIn(1, 4, level), 1);
            if (level > 0) {
                shape("all above the level " + (level - 1), map, level - 1, 0, 0, 0, 0, 1, 0);
            }
            if (level < 98) {
                shape("none above the level " + (level + 1), map, level + 1, 0, 0, 0, 0, 0, 1);
            }
        }
    }

    private static void noneAndAllAbove() {
        for (int level = 0; level <= 98; level += 49) {
            shape("none above " + level, Maps.flat(level), level, 0, 0, 0, 0, 0, 1);
            shape("all above " + level, Maps.flat(level + 1), level, 0, 0, 0, 0, 1, 0);
        }
    }

    private static void needleAndPitAtEachPoint() {
        for (int point = 0; point < 49; point++) {
            int row = point / 7;
            int column = point % 7;
            int sides = (row == 0 || row == 6 ? 1 : 0) + (column == 0 || column == 6 ? 1 : 0);
            int edges = 4 - sides;
            int closed = sides == 0 ? 1 : 0;
            int pieces = sides == 0 ? 4 : 3 - sides;
            shape("a needle at " + point, Maps.with(row, column, 5), 4, edges, 1, closed, pieces, 1, 1);
            HillLines pit = Maps.flat(5);
            pit.set(row, column, 4);
            shape("a pit at " + point, pit, 4, edges, 1, closed, pieces, 1, 1);
        }
    }

    private static final int[][] APART = {{6, 7}, {13, 14}, {41, 42}, {0, 6}, {6, 14}, {0, 42}, {3, 45}, {0, 48}, {6, 42}, {0, 13},
        {7, 13}, {20, 28}, {5, 14}};

    /** The last point of a row and the first one of the next, and the like, are not neighbours, nor corner to corner. */
    private static void noWayRoundTheMap() {
        for (int[] pair : APART) {
            HillLines needles = Maps.with(pair[0] / 7, pair[0] % 7, 9);
            needles.set(pair[1] / 7, pair[1] % 7, 9);
            String name = pair[0] + " and " + pair[1];
            DUE.same("needles at " + name + ": hills", needles.hills(0), 2);
            DUE.same("needles at " + name + ": linesByTracing", needles.linesByTracing(0), 2);
            DUE.same("needles at " + name + ": linesByRegions", needles.linesByRegions(0), 2);
            HillLines pits = Maps.flat(9);
            pits.set(pair[0] / 7, pair[0] % 7, 0);
            pits.set(pair[1] / 7, pair[1] % 7, 0);
            DUE.same("pits at " + name + ": hollows", pits.hollows(0), 2);
            DUE.same("pits at " + name + ": linesByTracing", pits.linesByTracing(0), 2);
            DUE.same("pits at " + name + ": linesByRegions", pits.linesByRegions(0), 2);
        }
    }

    /** The corners clockwise from the upper left one: 8, 4, 2 and 1. */
    private static void eachPatternInEachSquare() {
        int[] due = {0, 1, 1, 1, 1, 2, 1, 1, 1, 1, 2, 1, 1, 1, 1, 0};
        for (int square = 0; square < 36; square++) {
            int row = square / 6;
            int column = square % 6;
            HillLines map = new HillLines();
            for (int pattern = 0; pattern < 16; pattern++) {
                map.set(row, column, (pattern & 8) == 0 ? 20 : 21);
                map.set(row, column + 1, (pattern & 4) == 0 ? 20 : 21);
                map.set(row + 1, column + 1, (pattern & 2) == 0 ? 20 : 21);
                map.set(row + 1, column, (pattern & 1) == 0 ? 20 : 21);
                String name = "square " + row + ", " + column + ", pattern " + pattern;
                DUE.same(name, map.piecesIn(row, column, 20), due[pattern]);
                DUE.same(name + ", none above", map.piecesIn(row, column, 21), 0);
                DUE.same(name + ", all above", map.piecesIn(row, column, 19), 0);
            }
        }
    }

    private static void noSuchSquare() {
        HillLines map = Maps.with(6, 6, 50);
        DUE.same("the last square", map.piecesIn(5, 5, 0), 1);
        DUE.same("the first square", Maps.with(0, 0, 50).piecesIn(0, 0, 0), 1);
        for (int[] square : new int[][] {{-1, 0}, {6, 0}, {0, -1}, {0, 6}, {6, 6}, {1, -1}, {5, 6}, {6, 5}}) {
            DUE.noPoint("the square " + square[0] + ", " + square[1], () -> map.piecesIn(square[0], square[1], 0));
            DUE.noPoint("no square, and no level", () -> map.piecesIn(square[0], square[1], 99));
            DUE.noPoint("no square, and no level", () -> map.piecesIn(square[0], square[1], -1));
        }
    }

    /** Each piece cuts off one corner that is above: two hills corner to corner stay two, two hollows are one. */
    private static void fourCrossedEdges() {
        for (int square = 0; square < 36; square++) {
            int row = square / 6;
            int column = square % 6;
            boolean inside = row > 0 && row < 5 && column > 0 && column < 5;
            for (int falling = 0; falling < 2; falling++) {
                HillLines hills = Maps.with(row, column + 1 - falling, 9);
                hills.set(row + 1, column + falling, 9);
                HillLines hollows = Maps.flat(9);
                hollows.set(row, column + 1 - falling, 0);
                hollows.set(row + 1, column + falling, 0);
                String name = "square " + row + ", " + column + (falling == 1 ? ", falling" : ", rising");
                DUE.same(name + ": two pieces", hills.piecesIn(row, column, 5), 2);
                DUE.same(name + ": two hills", hills.hills(5), 2);
                DUE.same(name + ": two lines by tracing", hills.linesByTracing(5), 2);
                DUE.same(name + ": two lines by regions", hills.linesByRegions(5), 2);
                DUE.same(name + ": two pieces between hollows", hollows.piecesIn(row, column, 5), 2);
                DUE.same(name + ": one hollow", hollows.hollows(5), 1);
                DUE.same(name + ": lines by tracing and by regions", hollows.linesByTracing(5), hollows.linesByRegions(5));
                if (inside) {
                    shape(name + ", hills", hills, 5, 8, 2, 2, 4, 2, 1);
                    shape(name + ", hollows", hollows, 5, 8, 1, 1, 8, 1, 1);
                }
            }
        }
    }

    private static void mostCrossings() {
        String even = "9.9.9.9";
        String odd = ".9.9.9.";
        HillLines board = Maps.of(even, odd, even, odd, even, odd, even);
        shape("all edges", board, 89, 84, 25, 13, 4, 25, 1);
        int pieces = 0;
        for (int square = 0; square < 36; square++) {
            pieces += board.piecesIn(square / 6, square % 6, 0);
        }
        DUE.same("two pieces in each square", pieces, 72);
    }

    private static void mostHollows() {
        String holes = ".9.9.9.";
        String full = "9999999";
        shape("as many hollows as can be", Maps.of(holes, full, holes, full, holes, full, holes), 0, 48, 16, 4, 4, 1, 16);
    }

    private static void longestOfSeveral() {
        String empty = ".......";
        shape("a closed line is the longest", Maps.of("9......", empty, "..99...", "..9....", empty, empty, "......9"),
            0, 12, 3, 1, 8, 3, 1);
        shape("a line with ends is the longest", Maps.of("999....", "999....", empty, "....9..", empty, empty, empty),
            0, 9, 2, 1, 4, 2, 1);
        shape("a longer one with ends", Maps.of("9999...", "9999...", "9999...", empty, "....9..", empty, empty),
            0, 11, 2, 1, 6, 2, 1);
        shape("the last one is the longest", Maps.of("9......", empty, empty, empty, "......9", ".....99", "....999"),
            0, 8, 2, 0, 5, 2, 1);
    }

    /** One point above at the border, beside each edge of it: ends at both edges, none closed. */
    private static void endsAtTheBorder() {
        for (int along = 0; along < 6; along++) {
            int[][] pairs = {{0, along, 0, along + 1}, {6, along, 6, along + 1}, {along, 0, along + 1, 0}, {along, 6, along + 1, 6}};
            for (int[] pair : pairs) {
                HillLines map = Maps.with(pair[0], pair[1], 9);
                map.set(pair[2], pair[3], 9);
                boolean corner = along == 0 || along == 5;
                shape("side by side at the border, " + along, map, 0, corner ? 3 : 4, 1, 0, corner ? 2 : 3, 1, 1);
            }
        }
    }
}
