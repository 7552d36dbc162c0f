import java.util.List;
import java.util.Random;

/**
 * "Nothing is changed": no reading leaves anything behind. Each one is called behind each other
 * one, while the map goes from one state to another, and each one 512 times over.
 */
final class AnyOrderTest {
    private static final Due DUE = new Due("AnyOrderTest");
    private static final int LAST_CALL = 512;

    public static void main(String[] args) {
        behindEachOther();
        readingsLeaveAll();
        untilTheLastCall();
        changesUntilTheLastCall();
        DUE.end();
    }

    /** Both maps have ponds, sinks and several lines; their answers differ nearly everywhere. */
    private static int[][] heights(int seed) {
        Random random = new Random(seed);
        int[][] heights = new int[7][7];
        for (int point = 0; point < 49; point++) {
            heights[point / 7][point % 7] = random.nextInt(100);
        }
        heights[3][3] = seed % 2 == 0 ? 1 : 98;
        return heights;
    }

    private static Model model(int[][] heights) {
        Model model = new Model();
        for (int point = 0; point < 49; point++) {
            model.set(point / 7, point % 7, heights[point / 7][point % 7]);
        }
        return model;
    }

    private static void behindEachOther() {
        List<Calls.Call> readings = Calls.readings();
        Model one = model(heights(1));
        Model other = model(heights(2));
        one.keep(0);
        one.keep(1);
        other.keep(0);
        other.keep(1);
        for (Calls.Call first : readings) {
            HillLines map = Maps.of(heights(1));
            map.keep(0);
            put(map, heights(2));
            map.keep(1);
            int calls = 100;
            for (Calls.Call second : readings) {
                map.goBack(0);
                DUE.same(first + " ahead of " + second, first.on(map), first.on(one));
                map.goBack(1);
                DUE.same(second + " behind " + first, second.on(map), second.on(other));
                calls += 4;
            }
            DUE.same("the calls are few enough", calls <= LAST_CALL, true);
        }
    }

    private static void put(HillLines map, int[][] heights) {
        for (int point = 0; point < 49; point++) {
            map.set(point / 7, point % 7, heights[point / 7][point % 7]);
        }
    }

    private static HillLines rich() {
        HillLines map = Maps.of(heights(3));
        map.keep(1);
        map.smooth();
        Maps.write(map, "s33=5;h00*60");
        return map;
    }

    private static void readingsLeaveAll() {
        for (Calls.Call reading : Calls.readings()) {
            HillLines map = rich();
            long before = map.digest();
            reading.on(map);
            DUE.same(reading + " leaves the digest", map.digest(), before);
            DUE.same(reading + " leaves all", Calls.whole(map), Calls.whole(rich()));
        }
    }

    private static void untilTheLastCall() {
        for (Calls.Call reading : Calls.readings()) {
            HillLines map = Maps.of(heights(4));
            Object due = reading.on(model(heights(4)));
            for (int call = 50; call <= LAST_CALL; call++) {
                DUE.same("call " + call + ": " + reading, reading.on(map), due);
            }
        }
    }

    /** Calls that change something, over and over, and at last one reading of all. */
    private static void changesUntilTheLastCall() {
        Calls.Call[][] rows = {
            {Calls.call("set", 3, 4, 0), Calls.call("set", 3, 4, 99)},
            {Calls.call("heap", 1, 1, 60), Calls.call("heap", 5, 4, -60)},
            {Calls.call("smooth")},
            {Calls.call("heap", 3, 3, 60), Calls.call("wash", 50)},
            {Calls.call("set", 0, 1, 7), Calls.call("turnMap")},
            {Calls.call("append", '~'), Calls.call("draw")},
            {Calls.call("append", '~'), Calls.call("append", ';')},
            {Calls.call("append", '!'), Calls.call("clearBuffer"), Calls.call("undo")},
            {Calls.call("keep", 0), Calls.call("heap", 2, 6, 9), Calls.call("goBack", 0), Calls.call("set", 6, 6, 1)},
            {Calls.call("set", 1, 2, 3), Calls.call("heap", 6, 6, 12), Calls.call("undo")},
        };
        for (Calls.Call[] row : rows) {
            HillLines map = new HillLines();
            Model model = new Model();
            for (int call = 1; call < LAST_CALL; call++) {
                Calls.Call next = row[call % row.length];
                DUE.same("call " + call + ": " + next, next.on(map), next.on(model));
            }
            DUE.same("call 512: digest behind " + row[0], map.digest(), model.digest());
        }
    }
}
