import com.sun.management.ThreadMXBean;
import java.lang.management.ManagementFactory;

/** What a run makes: an object is small, and calls make nothing more but the exceptions that they throw. */
final class RoomTest {
    private static final Due DUE = new Due("RoomTest");
    private static final ThreadMXBean BEAN = (ThreadMXBean) ManagementFactory.getThreadMXBean();
    private static final int CALLS = 512;

    private static long kept = 0;

    public static void main(String[] args) {
        HillLines map = new HillLines();
        everyCall(map);
        long before = BEAN.getCurrentThreadAllocatedBytes();
        for (int call = 0; call < CALLS; call++) {
            everyCall(map);
        }
        long calls = BEAN.getCurrentThreadAllocatedBytes() - before;
        DUE.same("512 times all calls make next to nothing, not " + calls + " bytes", calls < 20_000, true);
        before = BEAN.getCurrentThreadAllocatedBytes();
        kept += new HillLines().savedStates();
        long object = BEAN.getCurrentThreadAllocatedBytes() - before;
        DUE.same("an object takes little, not " + object + " bytes", object < 20_000, true);
        DUE.end();
    }

    private static void everyCall(HillLines map) {
        kept += map.set(1, 2, 88) + map.heap(3, 3, 30) + map.heap(5, 1, -30) + map.smooth() + map.wash(3) + map.turnMap();
        kept += map.append('~') + map.append('!') + map.firstError() + map.clearBuffer() + map.append('~') + map.draw();
        map.keep(0);
        map.goBack(0);
        map.undo();
        kept += map.savedStates() + map.heightOf(0, 0) + map.summit() + map.bulk() + map.pointsAbove(5) + map.bulkAbove(5);
        kept += map.crossingsByEdges(5) + map.crossingsByPieces(5) + map.piecesIn(2, 2, 5) + map.linesByTracing(5);
        kept += map.linesByRegions(5) + map.closedLines(5) + map.longestLine(5) + map.hills(5) + map.hollows(5);
        kept += (map.isSink(3, 3) ? 1 : map.drainOf(3, 3)) + map.dropOf(3, 3) + map.sinkOf(3, 3) + map.basinByFollowing(3, 3);
        kept += map.basinByGoingUp(3, 3) + map.flowAt(3, 3) + map.stepsToSink(3, 3) + map.sinks() + map.greatestBasin();
        kept += map.spillByWays(3, 3) + map.spillByLevels(3, 3) + map.depthOf(3, 3) + map.water() + map.ponds();
        kept += map.cutLength(0, 0, 6, 3) + map.cutHeight(0, 0, 6, 3, 2) + map.climb(0, 0, 6, 3) + map.pass(0, 0, 6, 3);
        kept += (map.sees(0, 0, 6, 3) ? 1 : 0) + map.seenFrom(3, 3) + map.lookout() + (long) map.meanDrop() + map.digest();
    }
}
