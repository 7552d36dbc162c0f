/** Promises 15 to 19 at their boundaries, a test for each sentence that names one. */
final class ReadingsEdgesTest {
    private static final Due DUE = new Due("ReadingsEdgesTest");

    public static void main(String[] args) {
        heightOfEachPoint();
        heightOfLeastAndGreatest();
        heightOfNoPoint();
        summitAtEachPoint();
        summitIsTheFirst();
        bulkLeastAndMost();
        aboveIsGreater();
        aboveAtEachPoint();
        aboveLeastAndGreatestLevel();
        DUE.end();
    }

    // promise 15

    private static void heightOfEachPoint() {
        HillLines map = Maps.numbered();
        for (int point = 0; point < 49; point++) {
            DUE.same("heightOf the point " + point, map.heightOf(point / 7, point % 7), point);
        }
    }

    private static void heightOfLeastAndGreatest() {
        HillLines map = new HillLines();
        for (int height : new int[] {0, 1, 98, 99}) {
            map.set(6, 6, height);
            DUE.same("heightOf at " + height, map.heightOf(6, 6), height);
        }
    }

    private static void heightOfNoPoint() {
        HillLines map = Maps.numbered();
        DUE.same("the first row and column", map.heightOf(0, 0), 0);
        DUE.same("the last row and column", map.heightOf(6, 6), 48);
        DUE.noPoint("row -1", () -> map.heightOf(-1, 6));
        DUE.noPoint("row 7", () -> map.heightOf(7, 0));
        DUE.noPoint("column -1", () -> map.heightOf(6, -1));
        DUE.noPoint("column 7", () -> map.heightOf(0, 7));
        DUE.noPoint("row -1, column 7 are not the first point", () -> map.heightOf(-1, 7));
        DUE.noPoint("row 7, column -1 are not the last point", () -> map.heightOf(7, -1));
    }

    // promise 16

    private static void summitAtEachPoint() {
        for (int point = 0; point < 49; point++) {
            DUE.same("summit at " + point, Maps.with(point / 7, point % 7, 1).summit(), point);
            HillLines high = Maps.flat(98);
            high.set(point / 7, point % 7, 99);
            DUE.same("summit of 99 at " + point, high.summit(), point);
        }
    }

    private static void summitIsTheFirst() {
        for (int height : new int[] {0, 50, 99}) {
            DUE.same("all are as high", Maps.flat(height).summit(), 0);
        }
        HillLines map = Maps.with(6, 6, 99);
        for (int point = 47; point >= 0; point--) {
            map.set(point / 7, point % 7, 99);
            DUE.same("the first of several, row by row", map.summit(), point);
        }
        HillLines rows = Maps.with(1, 0, 50);
        rows.set(0, 6, 50);
        DUE.same("row by row, not column by column", rows.summit(), 6);
    }

    // promise 17

    private static void bulkLeastAndMost() {
        DUE.same("the least bulk", new HillLines().bulk(), 0);
        DUE.same("the greatest bulk", Maps.flat(99).bulk(), 4851);
        DUE.same("all points count once", Maps.numbered().bulk(), 1176);
        for (int point = 0; point < 49; point++) {
            DUE.same("the point " + point + " counts", Maps.with(point / 7, point % 7, 99).bulk(), 99);
        }
    }

    // promises 18 and 19

    private static void aboveIsGreater() {
        for (int level = 0; level <= 98; level++) {
            HillLines map = Maps.with(2, 3, level);
            DUE.same("as high as the level " + level + ": pointsAbove", map.pointsAbove(level), 0);
            DUE.same("as high as the level " + level + ": bulkAbove", map.bulkAbove(level), 0);
            map.set(2, 3, level + 1);
            DUE.same("1 higher than the level " + level + ": pointsAbove", map.pointsAbove(level), 1);
            DUE.same("1 higher than the level " + level + ": bulkAbove", map.bulkAbove(level), 1);
            map.set(2, 3, 99);
            DUE.same("99 above the level " + level + ": bulkAbove", map.bulkAbove(level), 99 - level);
        }
    }

    private static void aboveAtEachPoint() {
        for (int point = 0; point < 49; point++) {
            HillLines map = Maps.with(point / 7, point % 7, 60);
            DUE.same("pointsAbove: the point " + point + " counts", map.pointsAbove(50), 1);
            DUE.same("bulkAbove: the point " + point + " counts", map.bulkAbove(50), 10);
        }
        HillLines map = Maps.numbered();
        for (int level = 0; level <= 98; level++) {
            int above = Math.max(0, 48 - level);
            DUE.same("pointsAbove(" + level + ")", map.pointsAbove(level), above);
            DUE.same("bulkAbove(" + level + ")", map.bulkAbove(level), above * (above + 1) / 2);
        }
    }

    private static void aboveLeastAndGreatestLevel() {
        int[][] rows = {{0, 0, 0, 0}, {0, 98, 0, 0}, {1, 0, 49, 49}, {1, 1, 0, 0}, {98, 97, 49, 49}, {98, 98, 0, 0},
            {99, 98, 49, 49}, {99, 0, 49, 4851}};
        for (int[] row : rows) {
            HillLines map = Maps.flat(row[0]);
            DUE.same("flat at " + row[0] + ": pointsAbove(" + row[1] + ")", map.pointsAbove(row[1]), row[2]);
            DUE.same("flat at " + row[0] + ": bulkAbove(" + row[1] + ")", map.bulkAbove(row[1]), row[3]);
        }
        HillLines map = Maps.flat(99);
        for (int level : new int[] {-1, 99}) {
            DUE.badArgument("pointsAbove(" + level + ")", () -> map.pointsAbove(level));
            DUE.badArgument("bulkAbove(" + level + ")", () -> map.bulkAbove(level));
        }
    }
}
