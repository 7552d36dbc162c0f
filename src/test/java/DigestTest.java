/** Promise 52: digest, told from the other answers, and literally for some states. */
final class DigestTest {
    private static final Due DUE = new Due("DigestTest");

    public static void main(String[] args) {
        HillLines map = new HillLines();
        check("new", map, 0, 0, "");
        map.heap(3, 3, 60);
        check("a hill", map, 0, 0, "");
        map.keep(1);
        check("a slot", map, 0, 1, "");
        Maps.write(map, "s3!~");
        check("a buffer", map, 0, 1, "s3!~");
        map.keep(0);
        map.set(0, 6, 99);
        map.heap(1, 1, -20);
        map.wash(20);
        check("washed", map, 1, 1, "s3!~");
        map.undo();
        map.clearBuffer();
        check("undone", map, 1, 1, "");
        meanDrops();
        whatItTells();
        DUE.end();
    }

    /** Mean drops of many sizes, as their bits are put together by hand. */
    private static void meanDrops() {
        for (int height = 1; height <= 99; height++) {
            check("a needle of " + height, Maps.with(3, 3, height), 0, 0, "");
        }
        String even = "9.9.9.9";
        String odd = ".9.9.9.";
        check("a board", Maps.of(even, odd, even, odd, even, odd, even), 0, 0, "");
    }

    private static void whatItTells() {
        HillLines one = new HillLines();
        HillLines other = new HillLines();
        DUE.same("the same state", one.digest() == other.digest(), true);
        one.append('s');
        DUE.same("a character", one.digest() == other.digest(), false);
        other.append('h');
        DUE.same("another character", one.digest() == other.digest(), false);
        one.clearBuffer();
        other.clearBuffer();
        one.keep(0);
        other.keep(1);
        DUE.same("another slot", one.digest() == other.digest(), false);
        one.keep(1);
        other.keep(0);
        DUE.same("both slots", one.digest() == other.digest(), true);
        one.set(0, 0, 0);
        DUE.same("a saved state", one.digest() == other.digest(), false);
    }

    private static void check(String name, HillLines map, int slot0, int slot1, String buffer) {
        long hash = 4373;
        for (int point = 0; point < 49; point++) {
            int row = point / 7;
            int column = point % 7;
            hash = mix(hash, map.heightOf(row, column), map.dropOf(row, column), map.sinkOf(row, column), map.flowAt(row, column),
                map.stepsToSink(row, column), map.basinByFollowing(row, column), map.basinByGoingUp(row, column),
                map.spillByWays(row, column), map.spillByLevels(row, column), map.depthOf(row, column), map.seenFrom(row, column));
        }
        hash = mix(hash, map.summit(), map.bulk());
        for (int level : new int[] {10, 30, 50, 70}) {
            hash = mix(hash, map.pointsAbove(level), map.bulkAbove(level), map.crossingsByEdges(level),
                map.crossingsByPieces(level), map.linesByTracing(level), map.linesByRegions(level), map.closedLines(level),
                map.longestLine(level), map.hills(level), map.hollows(level));
        }
        hash = mix(hash, map.sinks(), map.greatestBasin(), map.water(), map.ponds(), map.lookout(), map.savedStates());
        hash = mix(hash, Double.doubleToLongBits(map.meanDrop()), slot0, slot1, buffer.length());
        for (char sign : buffer.toCharArray()) {
            hash = mix(hash, sign);
        }
        DUE.same(name, map.digest(), hash);
    }

    private static long mix(long start, long... values) {
        long hash = start;
        for (long value : values) {
            hash = 31 * hash + value;
        }
        return hash;
    }
}
