/** Promises 1 to 6 at their boundaries, a test for each sentence that names one. */
final class HeightsEdgesTest {
    private static final Due DUE = new Due("HeightsEdgesTest");

    public static void main(String[] args) {
        newIsFlatAndEmpty();
        objectsAreApart();
        setAtEachPoint();
        setLeastAndGreatest();
        heapOfEachAmount();
        heapUntilNothingIsLeft();
        heapAtTheCorners();
        heapIsHeldTo99();
        heapIsHeldTo0();
        heapCountsWhatIsOther();
        smoothAtEachPoint();
        smoothIsRoundedDown();
        smoothAllAtOnce();
        smoothLeastAndMost();
        washFromTwoOn();
        washGoesWhereThePointDrains();
        washLeastAndMostShowers();
        washIsHeldTo99();
        turnEachPoint();
        turnLeastAndMost();
        DUE.end();
    }

    // promise 1

    private static void newIsFlatAndEmpty() {
        HillLines map = new HillLines();
        for (int point = 0; point < 49; point++) {
            DUE.same("new: the height of the point " + point, map.heightOf(point / 7, point % 7), 0);
        }
        DUE.same("new: no saved state", map.savedStates(), 0);
        DUE.badState("new: nothing to undo", map::undo);
        DUE.badState("new: slot 0 is empty", () -> map.goBack(0));
        DUE.badState("new: slot 1 is empty", () -> map.goBack(1));
        DUE.same("new: the buffer has no error", map.firstError(), 0);
        DUE.badArgument("new: the buffer has no orders", map::draw);
        DUE.same("new: the buffer is empty", map.clearBuffer(), 0);
    }

    private static void objectsAreApart() {
        HillLines one = new HillLines();
        HillLines other = new HillLines();
        one.heap(3, 3, 60);
        one.keep(0);
        one.keep(1);
        one.append('~');
        HillLines third = new HillLines();
        String due = Calls.whole(new HillLines());
        DUE.same("an object made ahead of another one's calls", Calls.whole(other), due);
        DUE.same("an object made behind them", Calls.whole(third), due);
        DUE.same("the object called", one.bulk(), 380);
    }

    // promise 2

    private static void setAtEachPoint() {
        for (int point = 0; point < 49; point++) {
            HillLines map = new HillLines();
            int[][] due = new int[7][7];
            due[point / 7][point % 7] = 40 + point;
            DUE.same("set the point " + point, map.set(point / 7, point % 7, 40 + point), 0);
            DUE.same("set the point " + point + " alone", Maps.heights(map), Maps.heights(due));
            DUE.same("set the point " + point + " answers the height before", map.set(point / 7, point % 7, 0), 40 + point);
            map.undo();
            DUE.same("set the point " + point + " undone", Maps.heights(map), Maps.heights(due));
        }
    }

    private static void setLeastAndGreatest() {
        HillLines map = Maps.with(6, 0, 50);
        DUE.same("the least height", map.set(6, 0, 0), 50);
        DUE.same("the least height stands", map.heightOf(6, 0), 0);
        DUE.same("the greatest height", map.set(6, 0, 99), 0);
        DUE.same("the greatest height stands", map.heightOf(6, 0), 99);
        DUE.badArgument("just below the least", () -> map.set(6, 0, -1));
        DUE.badArgument("just above the greatest", () -> map.set(6, 0, 100));
        DUE.same("the height stays", map.heightOf(6, 0), 99);
        DUE.noPoint("row -1", () -> map.set(-1, 0, 99));
        DUE.noPoint("row 7", () -> map.set(7, 0, 99));
        DUE.noPoint("column -1 is not the last one of the row before", () -> map.set(1, -1, 99));
        DUE.noPoint("column 7 is not the first one of the next row", () -> map.set(0, 7, 99));
        DUE.noPoint("no point, and no height", () -> map.set(7, 0, 100));
        DUE.same("the other heights stay", map.bulk(), 99);
        DUE.same("the refused ones are not saved", map.savedStates(), 3);
    }

    // promise 3

    /** A third of 1, 2, 3 is 1; of 4, 5, 6 it is 2; and so on, to 20 of 58, 59, 60. */
    private static void heapOfEachAmount() {
        for (int amount = 1; amount <= 60; amount++) {
            int third = 0;
            while (3 * third < amount) {
                third++;
            }
            int[][] up = new int[7][7];
            int[][] down = new int[7][7];
            int other = 0;
            for (int point = 0; point < 49; point++) {
                int steps = Math.abs(point / 7 - 3) + Math.abs(point % 7 - 3);
                int left = Math.max(0, amount - steps * third);
                up[point / 7][point % 7] = left;
                down[point / 7][point % 7] = 60 - left;
                other += left > 0 ? 1 : 0;
            }
            HillLines hill = new HillLines();
            DUE.same("a hill of " + amount, hill.heap(3, 3, amount), other);
            DUE.same("a hill of " + amount + ": heights", Maps.heights(hill), Maps.heights(up));
            HillLines hole = Maps.flat(60);
            DUE.same("a hole of " + amount, hole.heap(3, 3, -amount), other);
            DUE.same("a hole of " + amount + ": heights", Maps.heights(hole), Maps.heights(down));
        }
        HillLines map = new HillLines();
        for (int amount : new int[] {0, 61, -61}) {
            DUE.badArgument("a hill of " + amount, () -> map.heap(3, 3, amount));
            DUE.noPoint("a hill of " + amount + " at no point", () -> map.heap(3, 7, amount));
        }
        DUE.same("no hill", map.bulk(), 0);
        DUE.same("none is saved", map.savedStates(), 0);
    }

    private static void heapUntilNothingIsLeft() {
        int[][] rows = {{1, 1, 0, 0, 0}, {2, 2, 1, 0, 0}, {3, 3, 2, 1, 0}, {4, 4, 2, 0, 0}, {5, 5, 3, 1, 0}, {6, 6, 4, 2, 0},
            {7, 7, 4, 1, 0}, {57, 57, 38, 19, 0}, {58, 58, 38, 18, 0}, {59, 59, 39, 19, 0}, {60, 60, 40, 20, 0}};
        for (int[] row : rows) {
            HillLines map = new HillLines();
            map.heap(3, 0, row[0]);
            for (int steps = 0; steps <= 3; steps++) {
                DUE.same("a hill of " + row[0] + ", steps " + steps, map.heightOf(3, steps), row[1 + steps]);
            }
        }
    }

    private static void heapAtTheCorners() {
        String empty = "0 0 0 0 0 0 0/";
        HillLines first = new HillLines();
        DUE.same("upper left", first.heap(0, 0, 6), 6);
        DUE.same("upper left: heights", Maps.heights(first), "6 4 2 0 0 0 0/4 2 0 0 0 0 0/2 0 0 0 0 0 0/" + empty.repeat(4));
        HillLines second = new HillLines();
        DUE.same("upper right", second.heap(0, 6, 6), 6);
        DUE.same("upper right: heights", Maps.heights(second), "0 0 0 0 2 4 6/0 0 0 0 0 2 4/0 0 0 0 0 0 2/" + empty.repeat(4));
        HillLines third = new HillLines();
        DUE.same("lower left", third.heap(6, 0, 6), 6);
        DUE.same("lower left: heights", Maps.heights(third), empty.repeat(4) + "2 0 0 0 0 0 0/4 2 0 0 0 0 0/6 4 2 0 0 0 0/");
        HillLines last = new HillLines();
        DUE.same("lower right", last.heap(6, 6, 6), 6);
        DUE.same("lower right: heights", Maps.heights(last), empty.repeat(4) + "0 0 0 0 0 0 2/0 0 0 0 0 2 4/0 0 0 0 2 4 6/");
    }

    private static void heapIsHeldTo99() {
        int[][] rows = {{38, 98, 78, 58}, {39, 99, 79, 59}, {40, 99, 80, 60}, {59, 99, 99, 79}, {60, 99, 99, 80}, {79, 99, 99, 99},
            {80, 99, 99, 99}, {98, 99, 99, 99}, {99, 99, 99, 99}};
        for (int[] row : rows) {
            HillLines map = Maps.flat(row[0]);
            map.heap(3, 3, 60);
            for (int steps = 0; steps <= 2; steps++) {
                DUE.same("a hill of 60 on " + row[0] + ", steps " + steps, map.heightOf(3, 3 - steps), row[1 + steps]);
            }
            DUE.same("a hill of 60 on " + row[0] + ", three steps", map.heightOf(3, 0), row[0]);
        }
    }

    private static void heapIsHeldTo0() {
        int[][] rows = {{61, 1, 21, 41}, {60, 0, 20, 40}, {59, 0, 19, 39}, {41, 0, 1, 21}, {40, 0, 0, 20}, {39, 0, 0, 19},
            {20, 0, 0, 0}, {19, 0, 0, 0}, {1, 0, 0, 0}, {0, 0, 0, 0}};
        for (int[] row : rows) {
            HillLines map = Maps.flat(row[0]);
            map.heap(3, 3, -60);
            for (int steps = 0; steps <= 2; steps++) {
                DUE.same("a hole of 60 in " + row[0] + ", steps " + steps, map.heightOf(3 + steps, 3), row[1 + steps]);
            }
            DUE.same("a hole of 60 in " + row[0] + ", three steps", map.heightOf(6, 3), row[0]);
        }
    }

    private static void heapCountsWhatIsOther() {
        HillLines high = Maps.flat(99);
        DUE.same("a hill on 99: none is other", high.heap(3, 3, 60), 0);
        high.set(3, 4, 98);
        DUE.same("a hill on 99: one is other", high.heap(3, 3, 60), 1);
        HillLines low = new HillLines();
        DUE.same("a hole in 0: none is other", low.heap(3, 3, -60), 0);
        DUE.same("a hole in 0 is saved", low.savedStates(), 1);
        low.set(3, 4, 1);
        low.set(0, 0, 50);
        DUE.same("a hole in 0: one is other", low.heap(3, 3, -60), 1);
        DUE.same("a hole in 0: it is 0", low.heightOf(3, 4), 0);
        DUE.same("the least hill", low.heap(6, 6, 1), 1);
        DUE.same("the least hole", low.heap(6, 6, -1), 1);
    }

    // promise 4

    /** A needle of 60: a point of the map has 3, 4 or 5 parts, itself among them. */
    private static void smoothAtEachPoint() {
        for (int point = 0; point < 49; point++) {
            int[][] due = new int[7][7];
            int other = 0;
            for (int place = 0; place < 49; place++) {
                if (Math.abs(place / 7 - point / 7) + Math.abs(place % 7 - point % 7) <= 1) {
                    due[place / 7][place % 7] = 60 / parts(place);
                    other++;
                }
            }
            HillLines map = Maps.with(point / 7, point % 7, 60);
            DUE.same("smooth a needle at the point " + point, map.smooth(), other);
            DUE.same("smooth a needle at the point " + point + ": heights", Maps.heights(map), Maps.heights(due));
        }
    }

    private static int parts(int point) {
        int parts = 5;
        parts -= point / 7 == 0 || point / 7 == 6 ? 1 : 0;
        parts -= point % 7 == 0 || point % 7 == 6 ? 1 : 0;
        return parts;
    }

    private static void smoothIsRoundedDown() {
        for (int point = 0; point < 49; point++) {
            int parts = parts(point);
            int[][] rows = {{parts - 1, 0}, {parts, 1}, {2 * parts - 1, 1}, {2 * parts, 2}};
            for (int[] row : rows) {
                HillLines map = Maps.with(point / 7, point % 7, row[0]);
                map.smooth();
                DUE.same("smooth " + row[0] + " at the point " + point, map.heightOf(point / 7, point % 7), row[1]);
            }
        }
    }

    private static void smoothAllAtOnce() {
        HillLines map = new HillLines();
        map.set(0, 0, 90);
        map.set(0, 1, 60);
        DUE.same("smooth by the heights ahead of it", map.smooth(), 5);
        DUE.same("smooth by the heights ahead of it: heights", Maps.heights(map),
            "50 37 15 0 0 0 0/22 12 0 0 0 0 0/" + "0 0 0 0 0 0 0/".repeat(5));
    }

    private static void smoothLeastAndMost() {
        for (int height : new int[] {0, 1, 98, 99}) {
            HillLines map = Maps.flat(height);
            DUE.same("smooth what is flat at " + height, map.smooth(), 0);
            DUE.same("it stays at " + height, map.bulk(), 49 * height);
            DUE.same("smooth what is flat is saved", map.savedStates(), 6);
            map.undo();
            DUE.same("and undone", map.bulk(), 49 * height);
        }
        String even = "9.9.9.9";
        String odd = ".9.9.9.";
        HillLines board = Maps.of(even, odd, even, odd, even, odd, even);
        DUE.same("smooth where all are other then", board.smooth(), 49);
        DUE.same("a high corner", board.heightOf(0, 0), 30);
        DUE.same("a low point of the border", board.heightOf(0, 1), 67);
        DUE.same("a low point within", board.heightOf(1, 2), 72);
        DUE.same("a high point within", board.heightOf(1, 1), 18);
    }

    // promise 5

    private static void washFromTwoOn() {
        for (int height : new int[] {0, 1, 50, 96, 97}) {
            HillLines one = Maps.flat(height);
            one.set(3, 3, height + 1);
            DUE.same("1 higher than " + height + " gives nothing", one.wash(50), 0);
            DUE.same("1 higher than " + height + " stays", one.heightOf(3, 3), height + 1);
            HillLines two = Maps.flat(height);
            two.set(3, 3, height + 2);
            DUE.same("2 higher than " + height + " gives 1", two.wash(1), 1);
            DUE.same("2 higher than " + height + " is 1 lower", two.heightOf(3, 3), height + 1);
            DUE.same("the neighbour of " + height + " has 1 more", two.heightOf(2, 3), height + 1);
            DUE.same("then all is still", two.wash(50), 0);
            HillLines sink = Maps.flat(height + 2);
            sink.set(3, 3, height);
            DUE.same("a sink of " + height + " gives nothing", sink.wash(1), 4);
        }
        HillLines flat = Maps.flat(99);
        DUE.same("what is flat gives nothing", flat.wash(50), 0);
        DUE.same("what is flat stays", flat.bulk(), 49 * 99);
    }

    private static void washGoesWhereThePointDrains() {
        int[][] corners = {{0, 0, 0, 1}, {0, 6, 1, 6}, {6, 0, 5, 0}, {6, 6, 5, 6}, {3, 3, 2, 3}, {0, 3, 0, 4}, {3, 6, 2, 6}};
        for (int[] row : corners) {
            HillLines map = Maps.with(row[0], row[1], 2);
            DUE.same("a needle of 2", map.wash(1), 1);
            DUE.same("it gives to the first", map.heightOf(row[2], row[3]), 1);
            DUE.same("it gives 1 alone", map.bulk(), 2);
        }
        HillLines lowest = Maps.flat(50);
        lowest.set(2, 3, 49);
        lowest.set(4, 3, 48);
        DUE.same("it gives to the lowest", lowest.wash(1), 4);
        DUE.same("the lowest has as much more as there are givers", lowest.heightOf(4, 3), 52);
        DUE.same("one that is lower by 1 gets nothing", lowest.heightOf(2, 3), 49);
        HillLines edge = Maps.flat(50);
        edge.set(1, 0, 10);
        DUE.same("the end of the row before is no neighbour", edge.wash(1), 3);
        DUE.same("the end of the row before stays", edge.heightOf(0, 6), 50);
        DUE.same("the end of the row stays", edge.heightOf(1, 6), 50);
    }

    private static void washLeastAndMostShowers() {
        HillLines once = Maps.with(3, 3, 99);
        DUE.same("1 shower", once.wash(1), 1);
        DUE.same("1 shower takes 1", once.heightOf(3, 3), 98);
        HillLines most = Maps.with(3, 3, 99);
        HillLines single = Maps.with(3, 3, 99);
        int given = most.wash(50);
        int due = 0;
        for (int shower = 0; shower < 50; shower++) {
            due += single.wash(1);
        }
        DUE.same("50 showers are 50 times 1", given, due);
        DUE.same("50 showers are 50 times 1: heights", Maps.heights(most), Maps.heights(single));
        DUE.same("50 showers take 50", most.heightOf(3, 3), 49);
        DUE.same("50 showers lose nothing here", most.bulk(), 99);
        DUE.same("50 showers are saved once", most.savedStates(), 2);
        DUE.badArgument("0 showers", () -> most.wash(0));
        DUE.badArgument("51 showers", () -> most.wash(51));
        DUE.same("the refused ones take nothing", most.heightOf(3, 3), 49);
        DUE.same("the refused ones are not saved", most.savedStates(), 2);
    }

    private static void washIsHeldTo99() {
        int[][] within = {{95, 99}, {96, 99}, {97, 99}};
        for (int[] row : within) {
            HillLines map = Maps.flat(99);
            map.set(3, 3, row[0]);
            DUE.same("four give to " + row[0], map.wash(1), 4);
            DUE.same("it has 99 at the most", map.heightOf(3, 3), row[1]);
            DUE.same("the givers have 98", map.bulk(), 44 * 99 + 4 * 98 + row[1]);
        }
        HillLines border = Maps.flat(99);
        border.set(0, 3, 97);
        DUE.same("three give to 97", border.wash(1), 3);
        DUE.same("it has 99, not 100", border.heightOf(0, 3), 99);
        HillLines corner = Maps.flat(99);
        corner.set(6, 6, 97);
        DUE.same("two give to 97", corner.wash(1), 2);
        DUE.same("it has 99 just so", corner.heightOf(6, 6), 99);
        HillLines between = Maps.flat(99);
        between.set(3, 3, 97);
        between.set(4, 3, 95);
        DUE.same("three give to 97, which gives 1 itself", between.wash(1), 7);
        DUE.same("it has 99: what it gets and gives counts together", between.heightOf(3, 3), 99);
        DUE.same("four give to 95", between.heightOf(4, 3), 99);
        HillLines still = Maps.flat(99);
        still.set(3, 3, 98);
        DUE.same("none gives to 98", still.wash(50), 0);
    }

    // promise 6

    private static void turnEachPoint() {
        for (int point = 0; point < 49; point++) {
            int row = point / 7;
            int column = point % 7;
            HillLines map = Maps.with(row, column, 99);
            DUE.same("turn the point " + point, map.turnMap(), point == 24 ? 0 : 2);
            DUE.same("turn the point " + point + ": its place", map.heightOf(column, 6 - row), 99);
            DUE.same("turn the point " + point + " alone", map.bulk(), 99);
            map.turnMap();
            DUE.same("twice", map.heightOf(6 - row, 6 - column), 99);
            map.turnMap();
            DUE.same("three times", map.heightOf(6 - column, row), 99);
            map.turnMap();
            DUE.same("four times", map.heightOf(row, column), 99);
        }
    }

    private static void turnLeastAndMost() {
        HillLines map = Maps.numbered();
        String before = Maps.heights(map);
        DUE.same("all but the middle are other", map.turnMap(), 48);
        map.undo();
        DUE.same("undone", Maps.heights(map), before);
        for (int height : new int[] {0, 99}) {
            HillLines flat = Maps.flat(height);
            DUE.same("a flat map has nothing other", flat.turnMap(), 0);
            DUE.same("and is saved", flat.savedStates(), 6);
        }
        HillLines even = Maps.of("9.....9", ".......", "..1.1..", "...5...", "..1.1..", ".......", "9.....9");
        DUE.same("what is the same on four sides has nothing other", even.turnMap(), 0);
        HillLines half = Maps.of("......9", ".......", ".......", ".......", ".......", ".......", "9......");
        DUE.same("what is the same on two sides has", half.turnMap(), 4);
    }
}
