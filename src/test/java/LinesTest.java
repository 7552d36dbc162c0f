/** Promises 20 to 28: crossings, pieces, lines, hills and hollows of a level. */
final class LinesTest {
    private static final Due DUE = new Due("LinesTest");

    public static void main(String[] args) {
        fewPoints();
        rings();
        strips();
        boards();
        levels();
        pieces();
        refusals();
        DUE.end();
    }

    /** What is due: edges, lines, closed lines, pieces of the longest one, hills, hollows. */
    private static void shape(String name, HillLines map, int level, int... due) {
        DUE.same(name + ": crossingsByEdges", map.crossingsByEdges(level), due[0]);
        DUE.same(name + ": crossingsByPieces", map.crossingsByPieces(level), due[0]);
        DUE.same(name + ": linesByTracing", map.linesByTracing(level), due[1]);
        DUE.same(name + ": linesByRegions", map.linesByRegions(level), due[1]);
        DUE.same(name + ": closedLines", map.closedLines(level), due[2]);
        DUE.same(name + ": longestLine", map.longestLine(level), due[3]);
        DUE.same(name + ": hills", map.hills(level), due[4]);
        DUE.same(name + ": hollows", map.hollows(level), due[5]);
    }

    private static void fewPoints() {
        String empty = ".......";
        shape("no point", new HillLines(), 0, 0, 0, 0, 0, 0, 1);
        shape("all points", Maps.flat(99), 98, 0, 0, 0, 0, 1, 0);
        shape("a point within", Maps.with(3, 3, 1), 0, 4, 1, 1, 4, 1, 1);
        shape("a corner", Maps.with(0, 0, 1), 0, 2, 1, 0, 1, 1, 1);
        shape("the last corner", Maps.with(6, 6, 1), 0, 2, 1, 0, 1, 1, 1);
        shape("a point of the border", Maps.with(0, 3, 1), 0, 3, 1, 0, 2, 1, 1);
        shape("corner to corner", Maps.of(empty, empty, empty, "...#...", "....#..", empty, empty), 10, 8, 2, 2, 4, 2, 1);
        shape("corner to corner, the other way",
            Maps.of(empty, empty, empty, "....#..", "...#...", empty, empty), 10, 8, 2, 2, 4, 2, 1);
        shape("side by side", Maps.of(empty, empty, empty, "...##..", empty, empty, empty), 10, 6, 1, 1, 6, 1, 1);
        shape("four corners", Maps.of("#.....#", empty, empty, empty, empty, empty, "#.....#"), 0, 8, 4, 0, 1, 4, 1);
    }

    private static void rings() {
        String empty = ".......";
        shape("a ring", Maps.of(empty, empty, "..###..", "..#.#..", "..###..", empty, empty), 0, 16, 2, 2, 12, 1, 2);
        shape("a ring without corners",
            Maps.of(empty, empty, "...#...", "..#.#..", "...#...", empty, empty), 0, 16, 4, 4, 4, 4, 1);
        shape("a ring with an open corner",
            Maps.of(empty, empty, "..##...", "..#.#..", "..###..", empty, empty), 0, 16, 1, 1, 16, 1, 1);
        shape("a ring at the border",
            Maps.of("#######", "#.....#", "#.....#", "#.....#", "#.....#", "#.....#", "#######"), 0, 20, 1, 1, 20, 1, 1);
        shape("rings within rings",
            Maps.of("#######", "#.....#", "#.###.#", "#.#.#.#", "#.###.#", "#.....#", "#######"), 0, 36, 3, 3, 20, 2, 2);
        shape("a hole in all", Maps.of("#######", "#######", "#######", "###.###", "#######", "#######", "#######"),
            0, 4, 1, 1, 4, 1, 1);
    }

    private static void strips() {
        String strip = "...#...";
        shape("a strip", Maps.of(strip, strip, strip, strip, strip, strip, strip), 0, 14, 2, 0, 6, 1, 2);
        String half = "####...";
        shape("a half", Maps.of(half, half, half, half, half, half, half), 0, 7, 1, 0, 6, 1, 1);
        String comb = "#.#.#.#";
        shape("a comb", Maps.of(comb, comb, comb, comb, comb, comb, comb), 0, 42, 6, 0, 6, 4, 3);
        shape("a way along the border",
            Maps.of("######.", "#......", "#......", "#......", "#......", "#......", "......."), 0, 13 - 1, 1, 0, 11, 1, 1);
        shape("a long line", Maps.of("#######", "......#", "#######", "#......", "#######", "......#", "#######"),
            0, 6 + 1 + 6 + 6 + 1 + 6 + 6 + 1 + 6, 3, 0, 12, 1, 3);
    }

    private static void boards() {
        String even = "#.#.#.#";
        String odd = ".#.#.#.";
        shape("a board", Maps.of(even, odd, even, odd, even, odd, even), 0, 84, 25, 13, 4, 25, 1);
        shape("the other board", Maps.of(odd, even, odd, even, odd, even, odd), 0, 84, 24, 12, 4, 24, 1);
    }

    private static void levels() {
        HillLines hill = new HillLines();
        hill.heap(3, 3, 60);
        shape("a hill at 0", hill, 0, 20, 1, 1, 20, 1, 1);
        shape("a hill at 19", hill, 19, 20, 1, 1, 20, 1, 1);
        shape("a hill at 20", hill, 20, 12, 1, 1, 12, 1, 1);
        shape("a hill at 39", hill, 39, 12, 1, 1, 12, 1, 1);
        shape("a hill at 40", hill, 40, 4, 1, 1, 4, 1, 1);
        shape("a hill at 59", hill, 59, 4, 1, 1, 4, 1, 1);
        shape("a hill at 60", hill, 60, 0, 0, 0, 0, 0, 1);
    }

    private static void pieces() {
        HillLines map = Maps.of("#......", ".......", ".......", "...#...", "....#..", ".......", "......#");
        int[][] due = {{0, 0, 1}, {0, 1, 0}, {1, 0, 0}, {2, 2, 1}, {2, 3, 1}, {3, 2, 1}, {3, 3, 2}, {4, 4, 1}, {4, 3, 1},
            {3, 4, 1}, {5, 5, 1}, {5, 4, 0}, {0, 5, 0}, {5, 0, 0}};
        for (int[] square : due) {
            DUE.same("piecesIn(" + square[0] + ", " + square[1] + ")", map.piecesIn(square[0], square[1], 10), square[2]);
        }
        DUE.same("piecesIn at the height", map.piecesIn(3, 3, 50), 0);
        DUE.same("piecesIn below the height", map.piecesIn(3, 3, 49), 2);
        DUE.same("piecesIn, side by side", Maps.of("##.....", ".......", ".......", ".......", ".......", ".......", ".......")
            .piecesIn(0, 0, 0), 1);
        DUE.same("piecesIn, three of four", Maps.of("##.....", "#......", ".......", ".......", ".......", ".......", ".......")
            .piecesIn(0, 0, 0), 1);
        DUE.same("piecesIn, four of four", Maps.flat(4).piecesIn(0, 0, 0), 0);
    }

    private static void refusals() {
        HillLines map = new HillLines();
        for (int level : new int[] {-1, 99, Integer.MAX_VALUE, Integer.MIN_VALUE}) {
            DUE.badArgument("crossingsByEdges", () -> map.crossingsByEdges(level));
            DUE.badArgument("crossingsByPieces", () -> map.crossingsByPieces(level));
            DUE.badArgument("piecesIn", () -> map.piecesIn(5, 5, level));
            DUE.badArgument("linesByTracing", () -> map.linesByTracing(level));
            DUE.badArgument("linesByRegions", () -> map.linesByRegions(level));
            DUE.badArgument("closedLines", () -> map.closedLines(level));
            DUE.badArgument("longestLine", () -> map.longestLine(level));
            DUE.badArgument("hills", () -> map.hills(level));
            DUE.badArgument("hollows", () -> map.hollows(level));
            DUE.noPoint("piecesIn, both wrong", () -> map.piecesIn(6, 5, level));
        }
        int[][] squares = {{-1, 0}, {6, 0}, {0, -1}, {0, 6}, {Integer.MAX_VALUE, 0}, {0, Integer.MIN_VALUE}};
        for (int[] square : squares) {
            DUE.noPoint("piecesIn", () -> map.piecesIn(square[0], square[1], 0));
        }
        DUE.same("level 98 is one", map.hollows(98), 1);
    }
}
