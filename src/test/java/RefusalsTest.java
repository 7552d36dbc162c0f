import java.util.ArrayList;
import java.util.List;
import java.util.function.Supplier;

/**
 * Every call that is refused, on a new object, on a full one and on one between: the exception that
 * the throws clause names first, and nothing changed, told by a twin that was not called.
 */
final class RefusalsTest {
    private static final Due DUE = new Due("RefusalsTest");
    private static final Class<?> NO_POINT = IndexOutOfBoundsException.class;
    private static final Class<?> BAD_ARGUMENT = IllegalArgumentException.class;
    private static final Class<?> BAD_STATE = IllegalStateException.class;

    private static final int LEAST = Integer.MIN_VALUE;
    private static final int MOST = Integer.MAX_VALUE;
    private static final int[][] NO_POINTS = {{-1, 0}, {7, 0}, {0, -1}, {0, 7}, {-1, -1}, {7, 7}, {-1, 7}, {7, -1}, {1, -7},
        {-1, 14}, {LEAST, 3}, {MOST, 3}, {3, LEAST}, {3, MOST}, {MOST, MOST}, {613566757, 0}};
    private static final int[][] NO_SQUARES = {{-1, 0}, {6, 0}, {0, -1}, {0, 6}, {6, 6}, {-1, 6}, {1, -6}, {LEAST, 3},
        {MOST, 3}, {3, LEAST}, {3, MOST}};
    private static final int[] NO_LEVELS = {-1, 99, 100, LEAST, MOST};
    private static final int[] NO_HEIGHTS = {-1, 100, LEAST, MOST};
    private static final int[] NO_AMOUNTS = {0, 61, -61, LEAST, MOST};
    private static final int[] NO_SHOWERS = {0, 51, -1, LEAST, MOST};
    private static final int[] NO_CODES = {32, 127, 0, -1, 'A' + 256, 'A' + 65536, LEAST, MOST};
    private static final int[] NO_SLOTS = {-1, 2, LEAST, MOST};

    private record Refusal(Calls.Call call, Class<?> due) {
    }

    public static void main(String[] args) {
        List<Refusal> always = new ArrayList<>();
        heights(always);
        textsAndSnapshots(always);
        levels(always);
        points(always);
        cuts(always);
        for (Refusal refusal : always) {
            check("a new object", HillLines::new, refusal);
            check("an object between", RefusalsTest::between, refusal);
            check("a full object", RefusalsTest::full, refusal);
        }
        byState();
        DUE.end();
    }

    private static void heights(List<Refusal> all) {
        for (int[] point : NO_POINTS) {
            add(all, NO_POINT, "set", point[0], point[1], 5);
            add(all, NO_POINT, "heap", point[0], point[1], 5);
            for (int height : NO_HEIGHTS) {
                add(all, NO_POINT, "set", point[0], point[1], height);
            }
            for (int amount : NO_AMOUNTS) {
                add(all, NO_POINT, "heap", point[0], point[1], amount);
            }
        }
        for (int point = 0; point < 49; point += 6) {
            for (int height : NO_HEIGHTS) {
                add(all, BAD_ARGUMENT, "set", point / 7, point % 7, height);
            }
            for (int amount : NO_AMOUNTS) {
                add(all, BAD_ARGUMENT, "heap", point / 7, point % 7, amount);
            }
        }
        for (int showers : NO_SHOWERS) {
            add(all, BAD_ARGUMENT, "wash", showers);
        }
    }

    private static void textsAndSnapshots(List<Refusal> all) {
        for (int code : NO_CODES) {
            add(all, BAD_ARGUMENT, "append", code);
        }
        for (int slot : NO_SLOTS) {
            add(all, BAD_ARGUMENT, "keep", slot);
            add(all, BAD_ARGUMENT, "goBack", slot);
        }
    }

    private static void levels(List<Refusal> all) {
        for (int level : NO_LEVELS) {
            for (String name : Calls.OF_LEVEL) {
                add(all, BAD_ARGUMENT, name, level);
            }
            add(all, BAD_ARGUMENT, "piecesIn", 0, 0, level);
            add(all, BAD_ARGUMENT, "piecesIn", 5, 5, level);
        }
        for (int[] square : NO_SQUARES) {
            add(all, NO_POINT, "piecesIn", square[0], square[1], 0);
            add(all, NO_POINT, "piecesIn", square[0], square[1], 98);
            for (int level : NO_LEVELS) {
                add(all, NO_POINT, "piecesIn", square[0], square[1], level);
            }
        }
    }

    private static void points(List<Refusal> all) {
        for (int[] point : NO_POINTS) {
            for (String name : Calls.OF_POINT) {
                add(all, NO_POINT, name, point[0], point[1]);
            }
        }
    }

    private static void cuts(List<Refusal> all) {
        for (int[] point : NO_POINTS) {
            for (String name : Calls.OF_CUT) {
                add(all, NO_POINT, name, point[0], point[1], 3, 3);
                add(all, NO_POINT, name, 3, 3, point[0], point[1]);
                add(all, NO_POINT, name, point[0], point[1], point[0], point[1]);
            }
            for (int at : new int[] {0, -1, MOST}) {
                add(all, NO_POINT, "cutHeight", point[0], point[1], 3, 3, at);
                add(all, NO_POINT, "cutHeight", 3, 3, point[0], point[1], at);
            }
        }
        for (int at : new int[] {-1, 1, 2, LEAST, MOST}) {
            add(all, NO_POINT, "cutHeight", 3, 3, 3, 3, at);
        }
        for (int at : new int[] {-1, 7, 8, LEAST, MOST}) {
            add(all, NO_POINT, "cutHeight", 0, 0, 6, 2, at);
        }
        for (int at : new int[] {-1, 4, 5, 6, 7}) {
            add(all, NO_POINT, "cutHeight", 5, 4, 3, 1, at);
        }
    }

    /** What is refused by what the map holds, not by the arguments. */
    private static void byState() {
        check("an empty buffer", HillLines::new, refusal(BAD_ARGUMENT, "draw"));
        check("half an order", RefusalsTest::between, refusal(BAD_ARGUMENT, "draw"));
        check("an error, and six saved states", RefusalsTest::wrong, refusal(BAD_ARGUMENT, "draw"));
        check("no saved state", HillLines::new, refusal(BAD_STATE, "undo"));
        check("no saved state, but all else", RefusalsTest::unsaved, refusal(BAD_STATE, "undo"));
        check("no snapshot, but all else", RefusalsTest::unkept, refusal(BAD_STATE, "goBack", 0));
        check("no snapshot, but all else", RefusalsTest::unkept, refusal(BAD_STATE, "goBack", 1));
        check("slot 0 is empty, and slot 1", HillLines::new, refusal(BAD_STATE, "goBack", 0));
        check("slot 1 is empty, and slot 0", HillLines::new, refusal(BAD_STATE, "goBack", 1));
        check("slot 0 is empty, not slot 1", RefusalsTest::between, refusal(BAD_STATE, "goBack", 0));
        for (int code : new int[] {33, 126, ';', '~', '0'}) {
            check("the buffer is full", RefusalsTest::full, refusal(BAD_STATE, "append", code));
        }
        for (int point = 0; point < 49; point++) {
            check("all points are sinks", HillLines::new, refusal(BAD_STATE, "drainOf", point / 7, point % 7));
        }
        check("a sink", RefusalsTest::full, refusal(BAD_STATE, "drainOf", 0, 0));
        check("a sink of 99", () -> Maps.flat(99), refusal(BAD_STATE, "drainOf", 6, 6));
    }

    private static HillLines between() {
        HillLines map = Maps.with(2, 4, 50);
        map.keep(1);
        map.heap(5, 1, 30);
        map.set(6, 6, 99);
        Maps.write(map, "h33*9;s00=9;d");
        return map;
    }

    private static HillLines full() {
        HillLines map = Maps.of("1234567", "9.9.9.9", "5837461", "..9..8.", "1919191", "9876543", "......1");
        map.set(0, 0, 1);
        map.keep(0);
        map.heap(4, 4, 60);
        map.turnMap();
        map.keep(1);
        map.smooth();
        map.wash(2);
        map.set(0, 0, 0);
        Maps.write(map, "s00=99;h66*60;d33*60;~;s12=0;h45*1;d60*7;s06=10;h24*18;~;d31*9".substring(0, 60));
        return map;
    }

    private static HillLines wrong() {
        HillLines map = full();
        map.clearBuffer();
        Maps.write(map, "s00=99;h66*60;d33*60;~;s12=0;h45*1;d60*7;s06=100");
        return map;
    }

    private static HillLines unsaved() {
        HillLines map = new HillLines();
        map.keep(0);
        map.keep(1);
        map.heap(3, 3, 60);
        map.undo();
        Maps.write(map, "s33=60;~");
        return map;
    }

    private static HillLines unkept() {
        HillLines map = new HillLines();
        for (int height = 1; height <= 7; height++) {
            map.set(0, height - 1, height);
        }
        Maps.write(map, "s33=60;~");
        return map;
    }

    private static void check(String name, Supplier<HillLines> maker, Refusal refusal) {
        HillLines called = maker.get();
        HillLines twin = maker.get();
        String told = name + ": " + refusal.call;
        DUE.same(told, refusal.call.on(called), refusal.due);
        DUE.same(told + " again", refusal.call.on(called), refusal.due);
        DUE.same(told + " leaves", Calls.whole(called), Calls.whole(twin));
    }

    private static void add(List<Refusal> all, Class<?> due, String name, int... arguments) {
        all.add(refusal(due, name, arguments));
    }

    private static Refusal refusal(Class<?> due, String name, int... arguments) {
        return new Refusal(Calls.call(name, arguments), due);
    }
}
