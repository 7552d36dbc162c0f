import com.sun.management.ThreadMXBean;
import java.lang.management.ManagementFactory;

/**
 * What a run makes: all calls of a run live in one room of 7.3 million fields and elements, the 512 of one object far
 * within it. Told in bytes, of which an int takes four.
 */
final class RoomTest {
    private static final Due DUE = new Due("RoomTest");
    private static final ThreadMXBean BEAN = (ThreadMXBean) ManagementFactory.getThreadMXBean();
    private static final int CALLS = 512;
    private static final long ROOM = 4 * 7_300_000L;

    private static long kept = 0;

    public static void main(String[] args) {
        check("digest", map -> kept += map.digest());
        check("lookout", map -> kept += map.lookout());
        check("wash(50)", map -> kept += map.wash(50));
        check("draw", RoomTest::drawMost);
        check("spillByLevels", map -> kept += map.spillByLevels(3, 3));
        check("linesByTracing", map -> kept += map.linesByTracing(40));
        check("keep, goBack and undo", RoomTest::snapshots);
        check("a new object", map -> kept += new HillLines().savedStates());
        DUE.end();
    }

    private interface Some {
        void on(HillLines map);
    }

    private static void check(String name, Some calls) {
        HillLines map = Maps.of("1234567", "9.9.9.9", "5837461", "..9..8.", "1919191", "9876543", "......1");
        calls.on(map);
        long before = BEAN.getCurrentThreadAllocatedBytes();
        for (int call = 0; call < CALLS; call++) {
            calls.on(map);
        }
        long made = BEAN.getCurrentThreadAllocatedBytes() - before;
        DUE.same("512 times " + name + " make " + made + " bytes: few enough", made < ROOM, true);
    }

    private static void drawMost(HillLines map) {
        for (int order = 0; order < 30; order++) {
            kept += map.append('~');
            kept += order < 29 ? map.append(';') : 0;
        }
        kept += map.draw();
    }

    private static void snapshots(HillLines map) {
        map.keep(0);
        map.keep(1);
        map.goBack(0);
        map.undo();
    }
}
