/** Promises 44 to 51 at their boundaries, a test for each sentence that names one. */
final class CutsEdgesTest {
    private static final Due DUE = new Due("CutsEdgesTest");

    public static void main(String[] args) {
        eachCut();
        onePoint();
        halvesAreRoundedUp();
        theOtherWayRound();
        heightLeastAndGreatestIndex();
        climbLeastAndMost();
        climbBetweenEachTwo();
        passAtEachPlace();
        seesUpToTheLine();
        seesOnUnevenLines();
        seesEndsAlone();
        seenFromLeastAndMost();
        seenFromAsSeesTells();
        lookoutAtEachPoint();
        lookoutIsTheFirst();
        meanDropLeastAndMost();
        noSuchPoint();
        DUE.end();
    }

    /** The whole number that (2 * n * first + 2 * at * difference + n) / (2 * n) is, rounded down. */
    private static int place(int first, int difference, int at, int n) {
        int place = -1;
        while (n > 0 && (place + 1) * 2 * n <= 2 * n * first + 2 * at * difference + n) {
            place++;
        }
        return n == 0 ? first : place;
    }

    private static void eachCut() {
        HillLines map = Maps.numbered();
        for (int from = 0; from < 49; from++) {
            for (int to = 0; to < 49; to++) {
                int down = to / 7 - from / 7;
                int right = to % 7 - from % 7;
                int n = Math.max(Math.abs(down), Math.abs(right));
                String name = "the cut from " + from + " to " + to;
                DUE.same(name + ": length", map.cutLength(from / 7, from % 7, to / 7, to % 7), n + 1);
                int climb = 0;
                int pass = from;
                int before = from;
                for (int at = 0; at <= n; at++) {
                    int due = 7 * place(from / 7, down, at, n) + place(from % 7, right, at, n);
                    DUE.same(name + ": height " + at, map.cutHeight(from / 7, from % 7, to / 7, to % 7, at), due);
                    climb += Math.max(0, due - before);
                    pass = Math.max(pass, due);
                    before = due;
                }
                DUE.same(name + ": climb", map.climb(from / 7, from % 7, to / 7, to % 7), climb);
                DUE.same(name + ": pass", map.pass(from / 7, from % 7, to / 7, to % 7), pass);
            }
        }
    }

    private static void onePoint() {
        for (int point = 0; point < 49; point++) {
            int row = point / 7;
            int column = point % 7;
            HillLines map = Maps.with(row, column, 77);
            String name = "the cut of the point " + point + " alone";
            DUE.same(name + ": length", map.cutLength(row, column, row, column), 1);
            DUE.same(name + ": height", map.cutHeight(row, column, row, column, 0), 77);
            DUE.noPoint(name + ": no height 1", () -> map.cutHeight(row, column, row, column, 1));
            DUE.noPoint(name + ": no height -1", () -> map.cutHeight(row, column, row, column, -1));
            DUE.same(name + ": climb", map.climb(row, column, row, column), 0);
            DUE.same(name + ": pass", map.pass(row, column, row, column), 77);
            DUE.same(name + ": sees", map.sees(row, column, row, column), true);
        }
    }

    private static void halvesAreRoundedUp() {
        HillLines map = Maps.numbered();
        DUE.same("half a row down", map.cutHeight(0, 0, 1, 2, 1), 8);
        DUE.same("half a row up goes down, too", map.cutHeight(1, 0, 0, 2, 1), 8);
        DUE.same("half a column to the right", map.cutHeight(0, 0, 2, 1, 1), 8);
        DUE.same("half a column to the left goes right, too", map.cutHeight(0, 1, 2, 0, 1), 8);
        DUE.same("at the last row", map.cutHeight(6, 0, 5, 2, 1), 43);
        DUE.same("at the last column", map.cutHeight(0, 6, 2, 5, 1), 13);
        DUE.same("a third is none", map.cutHeight(0, 0, 1, 3, 1), 1);
        DUE.same("two thirds are one", map.cutHeight(0, 0, 1, 3, 2), 9);
    }

    /** By the document's formula each cut goes by the same points the other way round. */
    private static void theOtherWayRound() {
        HillLines map = Maps.numbered();
        for (int from = 0; from < 49; from++) {
            for (int to = 0; to < from; to++) {
                int last = map.cutLength(from / 7, from % 7, to / 7, to % 7) - 1;
                for (int at = 0; at <= last; at++) {
                    DUE.same("the cut between " + from + " and " + to + ", at " + at,
                        map.cutHeight(from / 7, from % 7, to / 7, to % 7, at), map.cutHeight(to / 7, to % 7, from / 7, from % 7, last - at));
                }
            }
        }
    }

    private static void heightLeastAndGreatestIndex() {
        HillLines map = Maps.numbered();
        int[][] cuts = {{0, 0, 6, 6}, {6, 6, 0, 0}, {0, 6, 6, 0}, {3, 0, 3, 6}, {5, 2, 0, 2}, {2, 2, 3, 3}, {1, 1, 4, 3}, {4, 6, 3, 1}};
        for (int[] cut : cuts) {
            int length = map.cutLength(cut[0], cut[1], cut[2], cut[3]);
            DUE.same("the first index", map.cutHeight(cut[0], cut[1], cut[2], cut[3], 0), 7 * cut[0] + cut[1]);
            DUE.same("the last index", map.cutHeight(cut[0], cut[1], cut[2], cut[3], length - 1), 7 * cut[2] + cut[3]);
            for (int at : new int[] {-1, length, length + 1, 7, 49, Integer.MAX_VALUE, Integer.MIN_VALUE}) {
                DUE.noPoint("the index " + at, () -> map.cutHeight(cut[0], cut[1], cut[2], cut[3], at));
            }
            map.cutLength(0, 0, 6, 6);
            DUE.noPoint("the cut ahead of it does not count", () -> map.cutHeight(cut[0], cut[1], cut[2], cut[3], length));
        }
    }

    private static void climbLeastAndMost() {
        HillLines map = new HillLines();
        for (int column = 0; column < 7; column++) {
            map.set(2, column, column % 2 == 0 ? 99 : 0);
            map.set(3, column, column % 2 == 0 ? 0 : 99);
            map.set(4, column, 99 - 16 * column);
        }
        DUE.same("the most climb", map.climb(3, 0, 3, 6), 297);
        DUE.same("the most climb, back", map.climb(3, 6, 3, 0), 297);
        DUE.same("from 99 to 99", map.climb(2, 0, 2, 6), 297);
        DUE.same("none down", map.climb(4, 0, 4, 6), 0);
        DUE.same("all of it up", map.climb(4, 6, 4, 0), 96);
        DUE.same("none on what is flat", map.climb(0, 0, 0, 6), 0);
        DUE.same("none on what is flat at 99", Maps.flat(99).climb(0, 0, 6, 6), 0);
        DUE.same("the least climb", Maps.with(6, 6, 1).climb(0, 0, 6, 6), 1);
    }

    private static void climbBetweenEachTwo() {
        for (int at = 0; at < 7; at++) {
            HillLines needle = Maps.with(4, at, 50);
            DUE.same("up to the needle " + at, needle.climb(4, 0, 4, 6), at == 0 ? 0 : 50);
            DUE.same("up to the needle " + at + ", back", needle.climb(4, 6, 4, 0), at == 6 ? 0 : 50);
            HillLines pit = Maps.flat(50);
            pit.set(4, at, 20);
            DUE.same("up from the pit " + at, pit.climb(4, 0, 4, 6), at == 6 ? 0 : 30);
        }
    }

    private static void passAtEachPlace() {
        for (int at = 0; at < 7; at++) {
            HillLines map = Maps.flat(98);
            map.set(at, at, 99);
            DUE.same("the greatest at " + at, map.pass(0, 0, 6, 6), 99);
            DUE.same("the greatest at " + at + ", back", map.pass(6, 6, 0, 0), 99);
            DUE.same("not beside the cut", map.pass(at, at == 0 ? 1 : 0, at, at == 0 ? 6 : at - 1), 98);
        }
        DUE.same("the least pass", new HillLines().pass(0, 0, 6, 6), 0);
        DUE.same("a pass of 1", Maps.with(6, 0, 1).pass(6, 0, 0, 0), 1);
    }

    /** At each place between, for some heights of the ends: as high as the line is seen over, 1 higher is not. */
    private static void seesUpToTheLine() {
        int[][] ends = {{0, 0}, {99, 99}, {98, 98}, {0, 99}, {99, 0}, {10, 70}, {70, 10}, {50, 53}, {1, 0}, {0, 1}};
        for (int[] end : ends) {
            for (int at = 1; at < 6; at++) {
                HillLines map = new HillLines();
                map.set(5, 0, end[0]);
                map.set(5, 6, end[1]);
                int line = 0;
                while (line < 99 && 6 * (line + 1) <= (6 - at) * end[0] + at * end[1]) {
                    line++;
                }
                map.set(5, at, line);
                String name = "from " + end[0] + " to " + end[1] + " over " + line + " at " + at;
                DUE.same(name, map.sees(5, 0, 5, 6), true);
                DUE.same(name + ", back", map.sees(5, 6, 5, 0), true);
                if (line < 99) {
                    map.set(5, at, line + 1);
                    DUE.same(name + " and 1", map.sees(5, 0, 5, 6), false);
                    DUE.same(name + " and 1, back", map.sees(5, 6, 5, 0), false);
                }
            }
        }
    }

    /** The line stands at a third, a half or a sixth of 1: a point of 1 is higher than that, one of 0 is not. */
    private static void seesOnUnevenLines() {
        for (int n = 2; n <= 6; n++) {
            for (int at = 1; at < n; at++) {
                HillLines map = Maps.with(0, n, 1);
                DUE.same("over 0 to 1, steps " + n, map.sees(0, 0, 0, n), true);
                map.set(0, at, 1);
                DUE.same("over 1 at " + at + " to 1, steps " + n, map.sees(0, 0, 0, n), false);
                DUE.same("over 1 at " + at + " from 1, steps " + n, map.sees(0, n, 0, 0), false);
                map.set(0, 0, 1);
                DUE.same("over 1 from 1 to 1, steps " + n, map.sees(0, 0, 0, n), true);
            }
        }
    }

    private static void seesEndsAlone() {
        for (int point = 0; point < 49; point++) {
            HillLines map = Maps.flat(50);
            map.set(point / 7, point % 7, 99);
            DUE.same("a needle sees itself", map.sees(point / 7, point % 7, point / 7, point % 7), true);
            DUE.same("the ends do not stand between: the first one", map.sees(point / 7, point % 7, 6 - point / 7, 6 - point % 7), true);
            DUE.same("the ends do not stand between: the last one", map.sees(6 - point / 7, 6 - point % 7, point / 7, point % 7), true);
        }
        HillLines side = Maps.of(".......", "9999999", ".......", ".......", ".......", ".......", ".......");
        DUE.same("what is beside the cut does not count", side.sees(0, 0, 0, 6), true);
        DUE.same("neighbours are always seen", side.sees(0, 0, 1, 0), true);
        DUE.same("corner to corner, too", side.sees(0, 0, 1, 1), true);
        DUE.same("behind it nothing is", side.sees(0, 0, 2, 0), false);
    }

    private static void seenFromLeastAndMost() {
        for (int height : new int[] {0, 50, 99}) {
            HillLines flat = Maps.flat(height);
            for (int point = 0; point < 49; point++) {
                DUE.same("flat at " + height + ": all others from " + point, flat.seenFrom(point / 7, point % 7), 48);
            }
        }
        for (int point = 0; point < 49; point++) {
            int row = point / 7;
            int column = point % 7;
            HillLines map = new HillLines();
            int around = 0;
            for (int other = 0; other < 49; other++) {
                if (other != point && Math.abs(other / 7 - row) <= 1 && Math.abs(other % 7 - column) <= 1) {
                    map.set(other / 7, other % 7, 99);
                    around++;
                }
            }
            DUE.same("walled in at " + point, map.seenFrom(row, column), around);
        }
    }

    /** The cuts from (0, 0) to (1, 2) and from (0, 2) to (1, 0) go by (1, 1), not by (0, 1). */
    private static void seenFromAsSeesTells() {
        HillLines below = Maps.with(1, 1, 5);
        DUE.same("by (1, 1)", below.sees(0, 0, 1, 2), false);
        DUE.same("by (1, 1), from the right", below.sees(0, 2, 1, 0), false);
        HillLines above = Maps.with(0, 1, 5);
        DUE.same("not by (0, 1)", above.sees(0, 0, 1, 2), true);
        DUE.same("not by (0, 1), from the right", above.sees(0, 2, 1, 0), true);
        int[][] heights = new int[7][7];
        for (int point = 0; point < 49; point++) {
            heights[point / 7][point % 7] = 37 * point * point % 61;
        }
        HillLines map = Maps.of(heights);
        for (int from = 0; from < 49; from++) {
            int seen = 0;
            for (int to = 0; to < 49; to++) {
                seen += to != from && map.sees(from / 7, from % 7, to / 7, to % 7) ? 1 : 0;
            }
            DUE.same("seenFrom " + from + " as told by sees", map.seenFrom(from / 7, from % 7), seen);
        }
    }

    /** From a tower over a board of little hills all others are seen, from elsewhere fewer. */
    private static void lookoutAtEachPoint() {
        String even = "1.1.1.1";
        String odd = ".1.1.1.";
        for (int point = 0; point < 49; point++) {
            HillLines map = Maps.of(even, odd, even, odd, even, odd, even);
            map.set(point / 7, point % 7, 99);
            DUE.same("a tower at " + point, map.lookout(), point);
            DUE.same("all others from the tower at " + point, map.seenFrom(point / 7, point % 7), 48);
        }
    }

    private static void lookoutIsTheFirst() {
        for (int height : new int[] {0, 99}) {
            DUE.same("all see all", Maps.flat(height).lookout(), 0);
        }
        String even = "1.1.1.1";
        String odd = ".1.1.1.";
        HillLines map = Maps.of(even, odd, even, odd, even, odd, even);
        map.set(6, 6, 99);
        map.set(5, 6, 99);
        map.set(6, 5, 99);
        DUE.same("the first of three towers, row by row", map.lookout(), 41);
        map.set(5, 6, 10);
        DUE.same("the first of two towers", map.lookout(), 47);
    }

    private static void meanDropLeastAndMost() {
        DUE.same("no drop", new HillLines().meanDrop(), 0.0);
        DUE.same("no drop at 99", Maps.flat(99).meanDrop(), 0.0);
        DUE.same("the least drop", Maps.with(3, 3, 1).meanDrop(), 1 / 49.0);
        String even = "9.9.9.9";
        String odd = ".9.9.9.";
        HillLines board = Maps.of(even, odd, even, odd, even, odd, even);
        for (int point = 0; point < 49; point += 2) {
            board.set(point / 7, point % 7, 99);
        }
        DUE.same("the greatest drops", board.meanDrop(), 25 * 99 / 49.0);
        DUE.same("42 drops of 7, 6 of 1 and one sink", Maps.numbered().meanDrop(), (7 * 42 + 6) / 49.0);
        for (int height = 1; height <= 99; height++) {
            DUE.same("a drop of " + height, Maps.with(0, 0, height).meanDrop(), height / 49.0);
        }
    }

    private static void noSuchPoint() {
        HillLines map = new HillLines();
        for (int[] point : new int[][] {{-1, 0}, {7, 0}, {0, -1}, {0, 7}, {-1, 7}, {7, -1}}) {
            for (String name : Calls.OF_CUT) {
                DUE.same(name + ", the first point", Calls.call(name, point[0], point[1], 0, 0).on(map), IndexOutOfBoundsException.class);
                DUE.same(name + ", the last point", Calls.call(name, 0, 0, point[0], point[1]).on(map), IndexOutOfBoundsException.class);
            }
            DUE.noPoint("cutHeight, the first point", () -> map.cutHeight(point[0], point[1], 0, 0, 0));
            DUE.noPoint("cutHeight, the last point", () -> map.cutHeight(0, 0, point[0], point[1], 0));
            DUE.noPoint("seenFrom", () -> map.seenFrom(point[0], point[1]));
        }
    }
}
