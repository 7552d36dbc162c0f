/** Promises 29 to 38 at their boundaries, a test for each sentence that names one. */
final class SlopesEdgesTest {
    private static final Due DUE = new Due("SlopesEdgesTest");
    private static final int[] ROWS = {-1, 0, 1, 0};
    private static final int[] COLUMNS = {0, 1, 0, -1};
    private static final String WALLS_RIGHT = "99 99 99 99 99 99 ";
    private static final String WALLS_LEFT = " 99 99 99 99 99 99";

    public static void main(String[] args) {
        firstOfTheLowest();
        lowestNotFirst();
        asHighIsNotLower();
        noWayRoundTheMap();
        flatIsAllSinks();
        dropLeastAndMost();
        longestWay();
        basinLeastAndMost();
        basinOfNoSink();
        flowLeastAndMost();
        sinksLeastAndMost();
        greatestBasinIsTheFirst();
        greatestBasinIsTheGreatest();
        noSuchPoint();
        DUE.end();
    }

    private static boolean on(int row, int column) {
        return row >= 0 && row < 7 && column >= 0 && column < 7;
    }

    /** At each point, each set of its neighbours as the lowest ones: above, right, below, left. */
    private static void firstOfTheLowest() {
        for (int point = 0; point < 49; point++) {
            int row = point / 7;
            int column = point % 7;
            for (int set = 1; set < 16; set++) {
                HillLines map = Maps.flat(9);
                int due = -1;
                for (int way = 0; way < 4; way++) {
                    int toRow = row + ROWS[way];
                    int toColumn = column + COLUMNS[way];
                    if ((set >> way & 1) == 1 && on(toRow, toColumn)) {
                        map.set(toRow, toColumn, 4);
                        due = due < 0 ? 7 * toRow + toColumn : due;
                    }
                }
                String name = "the point " + point + ", lowest " + set;
                if (due < 0) {
                    DUE.badState(name + ": drainOf", () -> map.drainOf(row, column));
                } else {
                    DUE.same(name + ": drainOf", map.drainOf(row, column), due);
                }
                DUE.same(name + ": isSink", map.isSink(row, column), due < 0);
                DUE.same(name + ": dropOf", map.dropOf(row, column), due < 0 ? 0 : 5);
                DUE.same(name + ": sinkOf", map.sinkOf(row, column), due < 0 ? point : due);
                DUE.same(name + ": stepsToSink", map.stepsToSink(row, column), due < 0 ? 0 : 1);
            }
        }
    }

    private static void lowestNotFirst() {
        for (int first = 0; first < 4; first++) {
            for (int second = 0; second < 4; second++) {
                if (first != second) {
                    HillLines map = Maps.flat(9);
                    map.set(3 + ROWS[first], 3 + COLUMNS[first], 5);
                    map.set(3 + ROWS[second], 3 + COLUMNS[second], 4);
                    DUE.same("the lower one of " + first + " and " + second, map.drainOf(3, 3),
                        7 * (3 + ROWS[second]) + 3 + COLUMNS[second]);
                    DUE.same("the drop to the lower one", map.dropOf(3, 3), 5);
                }
            }
        }
    }

    private static void asHighIsNotLower() {
        for (int height : new int[] {0, 1, 50, 98}) {
            HillLines map = Maps.flat(height + 1);
            DUE.same("none is lower than " + (height + 1), map.isSink(3, 3), true);
            DUE.badState("it drains nowhere", () -> map.drainOf(3, 3));
            map.set(3, 4, height);
            DUE.same("one is lower by 1", map.isSink(3, 3), false);
            DUE.same("it drains there", map.drainOf(3, 3), 25);
            DUE.same("by 1", map.dropOf(3, 3), 1);
            DUE.same("the lower one is a sink", map.isSink(3, 4), true);
            DUE.same("corner to corner is no neighbour", map.isSink(2, 3), true);
        }
    }

    private static void noWayRoundTheMap() {
        int[][] pairs = {{0, 6, 1, 0}, {1, 0, 0, 6}, {3, 6, 4, 0}, {4, 0, 3, 6}, {0, 0, 6, 0}, {6, 0, 0, 0}, {2, 0, 2, 6}, {2, 6, 2, 0},
            {0, 3, 6, 3}, {0, 0, 6, 6}, {6, 6, 0, 0}};
        for (int[] pair : pairs) {
            HillLines map = Maps.flat(50);
            map.set(pair[2], pair[3], 0);
            DUE.same("no neighbour over the border", map.isSink(pair[0], pair[1]), true);
            DUE.same("nor drains it there in the end", map.sinkOf(pair[0], pair[1]), 7 * pair[0] + pair[1]);
        }
    }

    private static void flatIsAllSinks() {
        for (int height : new int[] {0, 99}) {
            HillLines map = Maps.flat(height);
            for (int point = 0; point < 49; point++) {
                int row = point / 7;
                int column = point % 7;
                DUE.badState("flat: drainOf " + point, () -> map.drainOf(row, column));
                DUE.same("flat: isSink " + point, map.isSink(row, column), true);
                DUE.same("flat: dropOf " + point, map.dropOf(row, column), 0);
                DUE.same("flat: sinkOf " + point, map.sinkOf(row, column), point);
                DUE.same("flat: basinByFollowing " + point, map.basinByFollowing(row, column), 1);
                DUE.same("flat: basinByGoingUp " + point, map.basinByGoingUp(row, column), 1);
                DUE.same("flat: flowAt " + point, map.flowAt(row, column), 1);
                DUE.same("flat: stepsToSink " + point, map.stepsToSink(row, column), 0);
            }
            DUE.same("flat: sinks", map.sinks(), 49);
            DUE.same("flat: greatestBasin", map.greatestBasin(), 0);
        }
    }

    private static void dropLeastAndMost() {
        HillLines map = Maps.with(6, 0, 99);
        DUE.same("the greatest drop", map.dropOf(6, 0), 99);
        DUE.same("the drop of a sink", map.dropOf(0, 0), 0);
        DUE.same("the drop beside it", map.dropOf(5, 0), 0);
        map.set(6, 0, 1);
        DUE.same("the least drop", map.dropOf(6, 0), 1);
        HillLines pit = Maps.flat(99);
        pit.set(0, 6, 0);
        DUE.same("the greatest drop into a pit", pit.dropOf(0, 5), 99);
        DUE.same("the drop of the pit", pit.dropOf(0, 6), 0);
    }

    /** One way to and fro between walls, from (0, 0) down to (6, 0): 31 points, each 1 lower than the one ahead of it. */
    private static HillLines toAndFro() {
        String[] rows = {"31 30 29 28 27 26 25", WALLS_RIGHT + "24", "17 18 19 20 21 22 23", "16" + WALLS_LEFT,
            "15 14 13 12 11 10 9", WALLS_RIGHT + "8", "1 2 3 4 5 6 7"};
        int[][] heights = new int[7][7];
        for (int row = 0; row < 7; row++) {
            String[] numbers = rows[row].split(" ");
            for (int column = 0; column < 7; column++) {
                heights[row][column] = Integer.parseInt(numbers[column]);
            }
        }
        return Maps.of(heights);
    }

    private static void longestWay() {
        HillLines map = toAndFro();
        for (int turned = 0; turned < 4; turned++) {
            int steps = 0;
            for (int point = 0; point < 49; point++) {
                int row = point / 7;
                int column = point % 7;
                steps = Math.max(steps, map.stepsToSink(row, column));
                int height = map.heightOf(row, column);
                if (height < 99) {
                    DUE.same("the steps from the height " + height, map.stepsToSink(row, column), height - 1);
                    DUE.same("the end of the way from " + height, map.heightOf(map.sinkOf(row, column) / 7,
                        map.sinkOf(row, column) % 7), 1);
                }
            }
            DUE.same("the most steps", steps, 30);
            map.turnMap();
        }
    }

    private static void basinLeastAndMost() {
        HillLines map = toAndFro();
        int[] ends = {42, 0, 6, 48};
        for (int end : ends) {
            DUE.same("all 49 points drain to one, by following", map.basinByFollowing(end / 7, end % 7), 49);
            DUE.same("all 49 points drain to one, by going up", map.basinByGoingUp(end / 7, end % 7), 49);
            DUE.same("all 49 points drain through it", map.flowAt(end / 7, end % 7), 49);
            DUE.same("it is the only sink", map.sinks(), 1);
            DUE.same("and the greatest basin", map.greatestBasin(), end);
            map.turnMap();
        }
        HillLines alone = Maps.flat(5);
        DUE.same("a sink alone, by following", alone.basinByFollowing(6, 6), 1);
        DUE.same("a sink alone, by going up", alone.basinByGoingUp(6, 6), 1);
    }

    private static void basinOfNoSink() {
        HillLines map = toAndFro();
        for (int point = 0; point < 49; point++) {
            if (point != 42) {
                DUE.same("no sink, by following: " + point, map.basinByFollowing(point / 7, point % 7), 0);
                DUE.same("no sink, by going up: " + point, map.basinByGoingUp(point / 7, point % 7), 0);
            }
        }
        HillLines needle = Maps.with(3, 3, 9);
        DUE.same("a needle, by following", needle.basinByFollowing(3, 3), 0);
        DUE.same("a needle, by going up", needle.basinByGoingUp(3, 3), 0);
        DUE.same("where it drains, by following", needle.basinByFollowing(2, 3), 2);
        DUE.same("where it drains, by going up", needle.basinByGoingUp(2, 3), 2);
    }

    private static void flowLeastAndMost() {
        HillLines map = toAndFro();
        DUE.same("nothing drains to a wall: itself alone", map.flowAt(1, 0), 1);
        DUE.same("a point of the way", map.flowAt(0, 0), 1);
        DUE.same("the next one", map.flowAt(0, 1), 2);
        DUE.same("the end of the first row", map.flowAt(0, 6), 7);
        DUE.same("the last step", map.flowAt(6, 1), 47);
        DUE.same("the end", map.flowAt(6, 0), 49);
        DUE.same("a needle: itself alone", Maps.with(3, 3, 9).flowAt(3, 3), 1);
        DUE.same("where it drains", Maps.with(3, 3, 9).flowAt(2, 3), 2);
    }

    private static void sinksLeastAndMost() {
        DUE.same("the fewest sinks", toAndFro().sinks(), 1);
        DUE.same("the most sinks", Maps.flat(1).sinks(), 49);
        for (int point = 0; point < 49; point++) {
            DUE.same("a needle is no sink", Maps.with(point / 7, point % 7, 1).sinks(), 48);
        }
    }

    private static void greatestBasinIsTheFirst() {
        HillLines map = Maps.flat(50);
        int[] pits = {48, 45, 42, 27, 24, 21, 6, 3, 0};
        map.set(6, 6, 0);
        DUE.same("the last point alone", map.greatestBasin(), 48);
        for (int pit : pits) {
            map.set(pit / 7, pit % 7, 0);
        }
        DUE.same("the one with four neighbours", map.greatestBasin(), 24);
        map.set(3, 3, 50);
        DUE.same("the first of four with three", map.greatestBasin(), 3);
        map.set(0, 3, 50);
        DUE.same("the first of three with three", map.greatestBasin(), 21);
        map.set(3, 0, 50);
        DUE.same("the first of two with three", map.greatestBasin(), 27);
        map.set(3, 6, 50);
        DUE.same("the last one with three", map.greatestBasin(), 45);
        map.set(6, 3, 50);
        DUE.same("the first corner", map.greatestBasin(), 0);
        map.set(0, 0, 50);
        DUE.same("the next corner", map.greatestBasin(), 6);
    }

    private static void greatestBasinIsTheGreatest() {
        for (int point = 1; point < 49; point++) {
            HillLines map = Maps.flat(50);
            map.set(point / 7, point % 7, 10);
            DUE.same("the greatest basin at " + point, map.greatestBasin(), point);
        }
        HillLines deep = Maps.flat(50);
        deep.set(0, 0, 0);
        deep.set(5, 5, 49);
        DUE.same("the most points, not the lowest one", deep.greatestBasin(), 40);
    }

    private static void noSuchPoint() {
        HillLines map = toAndFro();
        for (String name : Calls.OF_POINT) {
            for (int[] point : new int[][] {{-1, 0}, {7, 0}, {0, -1}, {0, 7}, {-1, 7}, {7, -1}}) {
                DUE.same(name + " at " + point[0] + ", " + point[1], Calls.call(name, point).on(map), IndexOutOfBoundsException.class);
            }
        }
        DUE.noPoint("drainOf: no point comes ahead of no neighbour", () -> new HillLines().drainOf(7, 7));
    }
}
