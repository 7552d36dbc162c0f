/** Promises 39 to 43: how high water stands, how deep, how much, and in how many ponds. */
final class PondsTest {
    private static final Due DUE = new Due("PondsTest");

    public static void main(String[] args) {
        bowl();
        gaps();
        ponds();
        winding();
        ends();
        refusals();
        DUE.end();
    }

    private static void spill(String name, HillLines map, int row, int column, int height) {
        DUE.same(name + ": spillByWays", map.spillByWays(row, column), height);
        DUE.same(name + ": spillByLevels", map.spillByLevels(row, column), height);
        DUE.same(name + ": depthOf", map.depthOf(row, column), height - map.heightOf(row, column));
    }

    private static void bowl() {
        HillLines map = Maps.of(".......", ".......", "..678..", "..415..", "..987..", ".......", ".......");
        spill("a bowl", map, 3, 3, 40);
        spill("its rim", map, 3, 2, 40);
        spill("its rim, higher", map, 2, 3, 70);
        spill("outside", map, 0, 0, 0);
        spill("outside, inner", map, 1, 1, 0);
        DUE.same("a bowl: water", map.water(), 30);
        DUE.same("a bowl: ponds", map.ponds(), 1);
        map.set(3, 2, 7);
        spill("a bowl with a gap", map, 3, 3, 10);
        DUE.same("a bowl with a gap: water", map.water(), 0);
        DUE.same("a bowl with a gap: ponds", map.ponds(), 0);
    }

    private static void gaps() {
        HillLines map = Maps.of(".......", ".......", "...3...", "..3.3..", "...3...", ".......", ".......");
        spill("water does not run corner to corner", map, 3, 3, 30);
        HillLines rim = Maps.flat(50);
        rim.set(3, 3, 1);
        rim.set(0, 3, 20);
        rim.set(1, 3, 30);
        rim.set(2, 3, 40);
        spill("a way up", rim, 3, 3, 40);
        spill("on the way", rim, 1, 3, 30);
        spill("at the border", rim, 0, 3, 20);
        rim.set(0, 3, 45);
        spill("the border's own height counts", rim, 3, 3, 45);
        spill("and on the way", rim, 1, 3, 45);
        spill("at the border, again", rim, 0, 3, 45);
    }

    private static void ponds() {
        HillLines map = Maps.of("9999999", "9.99.99", "99.9.99", "9999999", "9.....9", "9999999", "9999999");
        DUE.same("ponds: corner to corner they are two", map.ponds(), 4);
        DUE.same("ponds: water", map.water(), 90 * 9);
        HillLines two = Maps.of("9999999", "91....9", "9999999", "9999999", "9999999", "9....19", "9999999");
        DUE.same("ponds of two depths", two.ponds(), 2);
        two.set(0, 1, 0);
        DUE.same("one runs off", two.ponds(), 2);
        DUE.same("one runs off: water", two.water(), 80 + 90 * 4 + 4 * 10);
        two.set(1, 1, 0);
        DUE.same("one is gone", two.ponds(), 1);
        HillLines flat = new HillLines();
        DUE.same("flat: ponds", flat.ponds(), 0);
        DUE.same("flat: water", flat.water(), 0);
        HillLines border = Maps.flat(50);
        border.set(0, 3, 0);
        DUE.same("no pond at the border", border.ponds(), 0);
    }

    private static void winding() {
        HillLines map = Maps.of("9999999", "9.....9", "99999.9", "9.....9", "9.99999", "9.....1", "9999999");
        for (int column = 1; column <= 5; column++) {
            spill("a long way", map, 1, column, 10);
            spill("a long way", map, 3, column, 10);
        }
        spill("the end of the way", map, 5, 5, 10);
        spill("the gate", map, 5, 6, 10);
        DUE.same("a long way: water", map.water(), 170);
        DUE.same("a long way: ponds", map.ponds(), 1);
        HillLines back = Maps.of("9999999", "1.....9", "99999.9", "9.....9", "9.99999", "9.....9", "9999999");
        spill("a long way from above", back, 5, 5, 10);
    }

    private static void ends() {
        HillLines high = Maps.flat(99);
        spill("at 99", high, 3, 3, 99);
        high.set(3, 3, 0);
        spill("a hole of 99", high, 3, 3, 99);
        DUE.same("a hole of 99: water", high.water(), 99);
        DUE.same("a hole of 99: ponds", high.ponds(), 1);
        HillLines low = new HillLines();
        low.set(3, 3, 99);
        spill("a needle", low, 3, 3, 99);
        spill("beside a needle", low, 3, 2, 0);
    }

    private static void refusals() {
        HillLines map = new HillLines();
        for (int[] point : new int[][] {{-1, 0}, {7, 0}, {0, -1}, {0, 7}, {7, 7}, {Integer.MAX_VALUE, 1}, {1, Integer.MIN_VALUE}}) {
            int row = point[0];
            int column = point[1];
            DUE.noPoint("spillByWays", () -> map.spillByWays(row, column));
            DUE.noPoint("spillByLevels", () -> map.spillByLevels(row, column));
            DUE.noPoint("depthOf", () -> map.depthOf(row, column));
        }
    }
}
