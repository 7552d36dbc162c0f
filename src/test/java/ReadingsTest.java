/** Promises 15 to 19: heightOf, summit, bulk, pointsAbove, bulkAbove. */
final class ReadingsTest {
    private static final Due DUE = new Due("ReadingsTest");

    public static void main(String[] args) {
        HillLines map = Maps.of("1234567", "2.....8", "3..9..7", "4.....6", "5..9..5", "6.....4", "7654321");
        heightOf(map);
        summit(map);
        above(map);
        DUE.end();
    }

    private static void heightOf(HillLines map) {
        DUE.same("heightOf(0, 0)", map.heightOf(0, 0), 10);
        DUE.same("heightOf(0, 6)", map.heightOf(0, 6), 70);
        DUE.same("heightOf(1, 6)", map.heightOf(1, 6), 80);
        DUE.same("heightOf(5, 0)", map.heightOf(5, 0), 60);
        DUE.same("heightOf(6, 6)", map.heightOf(6, 6), 10);
        DUE.noPoint("heightOf(-1, 0)", () -> map.heightOf(-1, 0));
        DUE.noPoint("heightOf(7, 0)", () -> map.heightOf(7, 0));
        DUE.noPoint("heightOf(0, -1)", () -> map.heightOf(0, -1));
        DUE.noPoint("heightOf(0, 7)", () -> map.heightOf(0, 7));
        DUE.noPoint("heightOf(1, -2)", () -> map.heightOf(1, -2));
    }

    private static void summit(HillLines map) {
        DUE.same("summit, the first of two", map.summit(), 17);
        DUE.same("summit of a flat map", Maps.flat(9).summit(), 0);
        DUE.same("summit at the last point", Maps.with(6, 6, 1).summit(), 48);
        DUE.same("summit at (0, 1)", Maps.with(0, 1, 1).summit(), 1);
        DUE.same("bulk", map.bulk(), 280 + 100 + 190 + 100 + 190 + 100 + 280);
        DUE.same("bulk at most", Maps.flat(99).bulk(), 99 * 49);
    }

    private static void above(HillLines map) {
        DUE.same("pointsAbove(0)", map.pointsAbove(0), 26);
        DUE.same("pointsAbove(9)", map.pointsAbove(9), 26);
        DUE.same("pointsAbove(10)", map.pointsAbove(10), 24);
        DUE.same("pointsAbove(89)", map.pointsAbove(89), 2);
        DUE.same("pointsAbove(90)", map.pointsAbove(90), 0);
        DUE.same("pointsAbove(98)", map.pointsAbove(98), 0);
        DUE.same("pointsAbove(98) at 99", Maps.flat(99).pointsAbove(98), 49);
        DUE.same("bulkAbove(0)", map.bulkAbove(0), map.bulk());
        DUE.same("bulkAbove(75)", map.bulkAbove(75), 35);
        DUE.same("bulkAbove(90)", map.bulkAbove(90), 0);
        DUE.same("bulkAbove(98) at 99", Maps.flat(99).bulkAbove(98), 49);
        for (int level : new int[] {-1, 99, Integer.MAX_VALUE, Integer.MIN_VALUE}) {
            DUE.badArgument("pointsAbove(" + level + ")", () -> map.pointsAbove(level));
            DUE.badArgument("bulkAbove(" + level + ")", () -> map.bulkAbove(level));
        }
    }
}
