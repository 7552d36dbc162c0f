import java.util.ArrayDeque;
import java.util.ArrayList;
import java.util.Arrays;
import java.util.HashMap;
import java.util.HashSet;
import java.util.LinkedHashMap;
import java.util.List;
import java.util.Map;
import java.util.Set;
import java.util.regex.Pattern;

/**
 * The document once more, by other ways than the program's, with the Java library and without
 * thrift: what the random runs are held against. Its public methods are the face.
 */
public final class Model {
    private static final String ORDER = "(s[0-6][0-6]=(0|[1-9][0-9]?)|[hd][0-6][0-6]\\*([1-5][0-9]?|60?|[7-9])|~)";
    private static final Pattern ORDERS = Pattern.compile(ORDER + "(;" + ORDER + ")*");
    /** Whatever begins orders becomes orders by one of these ends. */
    private static final List<String> ENDS =
        List.of("", "~", "00=0", "0=0", "=0", "0", "00*1", "0*1", "*1", "1");

    private int[] heights = new int[49];
    private final int[][] slots = new int[2][];
    private final ArrayDeque<int[]> saved = new ArrayDeque<>();
    private String buffer = "";

    private static void need(boolean point) {
        if (!point) {
            throw new IndexOutOfBoundsException();
        }
    }

    private static void allow(boolean argument) {
        if (!argument) {
            throw new IllegalArgumentException();
        }
    }

    private static void state(boolean possible) {
        if (!possible) {
            throw new IllegalStateException();
        }
    }

    private static int point(int row, int column) {
        need(on(row, column));
        return 7 * row + column;
    }

    private static boolean on(int row, int column) {
        return 0 <= row && row <= 6 && 0 <= column && column <= 6;
    }

    private void save() {
        saved.addLast(heights.clone());
        if (saved.size() > 6) {
            saved.removeFirst();
        }
    }

    private static int within(int height) {
        return height < 0 ? 0 : height > 99 ? 99 : height;
    }

    private static List<Integer> neighbours(int point) {
        List<Integer> all = new ArrayList<>();
        if (point >= 7) {
            all.add(point - 7);
        }
        if (point % 7 != 6) {
            all.add(point + 1);
        }
        if (point < 42) {
            all.add(point + 7);
        }
        if (point % 7 != 0) {
            all.add(point - 1);
        }
        return all;
    }

    private int replace(int[] next) {
        int count = 0;
        for (int point = 0; point < 49; point++) {
            count += next[point] == heights[point] ? 0 : 1;
        }
        heights = next;
        return count;
    }

    public int set(int row, int column, int height) {
        int point = point(row, column);
        allow(height >= 0 && height <= 99);
        save();
        int before = heights[point];
        heights[point] = height;
        return before;
    }

    public int heap(int row, int column, int amount) {
        point(row, column);
        allow(amount != 0 && amount >= -60 && amount <= 60);
        save();
        return heaped(row, column, amount);
    }

    private int heaped(int row, int column, int amount) {
        int[] next = heights.clone();
        int third = (int) Math.ceil(Math.abs(amount) / 3.0);
        for (int point = 0; point < 49; point++) {
            int steps = Math.abs(row - point / 7) + Math.abs(column - point % 7);
            int left = Math.max(0, Math.abs(amount) - steps * third);
            next[point] = within(next[point] + Integer.signum(amount) * left);
        }
        return replace(next);
    }

    public int smooth() {
        save();
        return smoothed();
    }

    private int smoothed() {
        int[] next = new int[49];
        for (int point = 0; point < 49; point++) {
            List<Integer> around = neighbours(point);
            around.add(point);
            next[point] = (int) Math.floor(around.stream().mapToInt(other -> heights[other]).average().getAsDouble() + 1e-9);
        }
        return replace(next);
    }

    public int wash(int showers) {
        allow(showers >= 1 && showers <= 50);
        save();
        int given = 0;
        for (int shower = 0; shower < showers; shower++) {
            int[] next = heights.clone();
            for (int point = 0; point < 49; point++) {
                int to = drain(point);
                if (to >= 0 && heights[point] - heights[to] >= 2) {
                    next[point]--;
                    next[to]++;
                    given++;
                }
            }
            heights = Arrays.stream(next).map(Model::within).toArray();
        }
        return given;
    }

    public int turnMap() {
        save();
        int[] next = new int[49];
        for (int point = 0; point < 49; point++) {
            next[7 * (point % 7) + 6 - point / 7] = heights[point];
        }
        return replace(next);
    }

    public int append(int code) {
        allow(code >= 33 && code <= 126);
        state(buffer.length() < 60);
        buffer += (char) code;
        return buffer.length();
    }

    public int clearBuffer() {
        int before = buffer.length();
        buffer = "";
        return before;
    }

    public int firstError() {
        for (int index = 0; index < buffer.length(); index++) {
            String begun = buffer.substring(0, index + 1);
            if (ENDS.stream().noneMatch(end -> ORDERS.matcher(begun + end).matches())) {
                return index;
            }
        }
        return buffer.length();
    }

    public int draw() {
        allow(ORDERS.matcher(buffer).matches());
        save();
        String[] orders = buffer.split(";");
        for (String order : orders) {
            if (order.equals("~")) {
                smoothed();
            } else {
                int row = order.charAt(1) - '0';
                int column = order.charAt(2) - '0';
                int number = Integer.parseInt(order.substring(4));
                if (order.charAt(0) == 's') {
                    heights[7 * row + column] = number;
                } else {
                    heaped(row, column, order.charAt(0) == 'h' ? number : -number);
                }
            }
        }
        buffer = "";
        return orders.length;
    }

    public void keep(int slot) {
        allow(slot == 0 || slot == 1);
        slots[slot] = heights.clone();
    }

    public void goBack(int slot) {
        allow(slot == 0 || slot == 1);
        state(slots[slot] != null);
        save();
        heights = slots[slot].clone();
    }

    public void undo() {
        state(!saved.isEmpty());
        heights = saved.removeLast();
    }

    public int savedStates() {
        return saved.size();
    }

    public int heightOf(int row, int column) {
        return heights[point(row, column)];
    }

    public int summit() {
        int most = Arrays.stream(heights).max().getAsInt();
        int point = 0;
        while (heights[point] != most) {
            point++;
        }
        return point;
    }

    public int bulk() {
        return Arrays.stream(heights).sum();
    }

    private static void level(int level) {
        allow(level >= 0 && level <= 98);
    }

    public int pointsAbove(int level) {
        level(level);
        return (int) Arrays.stream(heights).filter(height -> height > level).count();
    }

    public int bulkAbove(int level) {
        level(level);
        return Arrays.stream(heights).filter(height -> height > level).map(height -> height - level).sum();
    }

    private boolean above(int row, int column, int level) {
        return heights[7 * row + column] > level;
    }

    public int crossingsByEdges(int level) {
        level(level);
        int twice = 0;
        for (int point = 0; point < 49; point++) {
            for (int other : neighbours(point)) {
                twice += (heights[point] > level) != (heights[other] > level) ? 1 : 0;
            }
        }
        return twice / 2;
    }

    /** Each piece by its two edges; an edge by twice the place of its middle. */
    private List<String[]> pieces(int row, int column, int level) {
        String up = (2 * row) + "," + (2 * column + 1);
        String right = (2 * row + 1) + "," + (2 * column + 2);
        String down = (2 * row + 2) + "," + (2 * column + 1);
        String left = (2 * row + 1) + "," + (2 * column);
        boolean a = above(row, column, level);
        boolean b = above(row, column + 1, level);
        boolean c = above(row + 1, column, level);
        boolean d = above(row + 1, column + 1, level);
        List<String[]> all = new ArrayList<>();
        String signs = (a ? "1" : "0") + (b ? "1" : "0") + (c ? "1" : "0") + (d ? "1" : "0");
        switch (signs) {
            case "0000", "1111" -> { }
            case "1000", "0111" -> all.add(new String[] {up, left});
            case "0100", "1011" -> all.add(new String[] {up, right});
            case "0010", "1101" -> all.add(new String[] {down, left});
            case "0001", "1110" -> all.add(new String[] {down, right});
            case "1100", "0011" -> all.add(new String[] {left, right});
            case "1010", "0101" -> all.add(new String[] {up, down});
            case "1001" -> {
                all.add(new String[] {up, left});
                all.add(new String[] {down, right});
            }
            default -> {
                all.add(new String[] {up, right});
                all.add(new String[] {down, left});
            }
        }
        return all;
    }

    private List<String[]> pieces(int level) {
        List<String[]> all = new ArrayList<>();
        for (int row = 0; row < 6; row++) {
            for (int column = 0; column < 6; column++) {
                all.addAll(pieces(row, column, level));
            }
        }
        return all;
    }

    private static boolean atBorder(String edge) {
        return edge.startsWith("0,") || edge.startsWith("12,") || edge.endsWith(",0") || edge.endsWith(",12");
    }

    public int crossingsByPieces(int level) {
        level(level);
        int ends = 0;
        for (String[] piece : pieces(level)) {
            for (String edge : piece) {
                ends += atBorder(edge) ? 2 : 1;
            }
        }
        return ends / 2;
    }

    public int piecesIn(int row, int column, int level) {
        need(row >= 0 && row <= 5 && column >= 0 && column <= 5);
        level(level);
        return pieces(row, column, level).size();
    }

    /** Sets of pieces are joined as long as two of them share an edge. */
    private List<List<String[]>> lines(int level) {
        List<List<String[]>> lines = new ArrayList<>();
        for (String[] piece : pieces(level)) {
            List<String[]> joined = new ArrayList<>();
            joined.add(piece);
            List<List<String[]>> others = new ArrayList<>();
            for (List<String[]> line : lines) {
                boolean shares = line.stream().anyMatch(old -> Arrays.asList(old).contains(piece[0])
                    || Arrays.asList(old).contains(piece[1]));
                if (shares) {
                    joined.addAll(line);
                } else {
                    others.add(line);
                }
            }
            others.add(joined);
            lines = others;
        }
        return lines;
    }

    public int linesByTracing(int level) {
        level(level);
        return lines(level).size();
    }

    public int linesByRegions(int level) {
        level(level);
        return hills(level) + hollows(level) - 1;
    }

    public int closedLines(int level) {
        level(level);
        return (int) lines(level).stream()
            .filter(line -> line.stream().noneMatch(piece -> atBorder(piece[0]) || atBorder(piece[1]))).count();
    }

    public int longestLine(int level) {
        level(level);
        return lines(level).stream().mapToInt(List::size).max().orElse(0);
    }

    private static int regions(Set<Integer> points, boolean corners) {
        Set<Integer> left = new HashSet<>(points);
        int count = 0;
        while (!left.isEmpty()) {
            count++;
            hang(left.iterator().next(), left, corners);
        }
        return count;
    }

    private static void hang(int point, Set<Integer> left, boolean corners) {
        if (!left.remove(point)) {
            return;
        }
        for (int other = 0; other < 49; other++) {
            int rows = Math.abs(other / 7 - point / 7);
            int columns = Math.abs(other % 7 - point % 7);
            if (rows + columns == 1 || corners && rows == 1 && columns == 1) {
                hang(other, left, corners);
            }
        }
    }

    public int hills(int level) {
        level(level);
        Set<Integer> points = new HashSet<>();
        for (int point = 0; point < 49; point++) {
            if (heights[point] > level) {
                points.add(point);
            }
        }
        return regions(points, false);
    }

    public int hollows(int level) {
        level(level);
        Set<Integer> points = new HashSet<>();
        for (int point = 0; point < 49; point++) {
            if (heights[point] <= level) {
                points.add(point);
            }
        }
        return regions(points, true);
    }

    /** The first of the lowest neighbours, or -1. */
    private int drain(int point) {
        List<Integer> around = neighbours(point);
        int least = around.stream().mapToInt(other -> heights[other]).min().getAsInt();
        if (least >= heights[point]) {
            return -1;
        }
        return around.stream().filter(other -> heights[other] == least).findFirst().get();
    }

    private List<Integer> way(int point) {
        List<Integer> way = new ArrayList<>();
        for (int place = point; place >= 0; place = drain(place)) {
            way.add(place);
        }
        return way;
    }

    private int through(int point) {
        int count = 0;
        for (int other = 0; other < 49; other++) {
            count += way(other).contains(point) ? 1 : 0;
        }
        return count;
    }

    public int drainOf(int row, int column) {
        int to = drain(point(row, column));
        state(to >= 0);
        return to;
    }

    public boolean isSink(int row, int column) {
        return drain(point(row, column)) < 0;
    }

    public int dropOf(int row, int column) {
        int point = point(row, column);
        return drain(point) < 0 ? 0 : heights[point] - heights[drain(point)];
    }

    public int sinkOf(int row, int column) {
        List<Integer> way = way(point(row, column));
        return way.get(way.size() - 1);
    }

    public int basinByFollowing(int row, int column) {
        int point = point(row, column);
        return drain(point) < 0 ? through(point) : 0;
    }

    public int basinByGoingUp(int row, int column) {
        return basinByFollowing(row, column);
    }

    public int flowAt(int row, int column) {
        return through(point(row, column));
    }

    public int stepsToSink(int row, int column) {
        return way(point(row, column)).size() - 1;
    }

    public int sinks() {
        int count = 0;
        for (int point = 0; point < 49; point++) {
            count += drain(point) < 0 ? 1 : 0;
        }
        return count;
    }

    public int greatestBasin() {
        Map<Integer, Integer> basins = new LinkedHashMap<>();
        for (int point = 0; point < 49; point++) {
            if (drain(point) < 0) {
                basins.put(point, through(point));
            }
        }
        int most = basins.values().stream().max(Integer::compare).get();
        return basins.entrySet().stream().filter(basin -> basin.getValue() == most).findFirst().get().getKey();
    }

    /** The least of the greatest heights to all points, by every point between; then to the border. */
    private int spill(int start) {
        int[] best = new int[49];
        Arrays.fill(best, 1000);
        best[start] = heights[start];
        ArrayDeque<Integer> open = new ArrayDeque<>(List.of(start));
        while (!open.isEmpty()) {
            int point = open.removeFirst();
            for (int other : neighbours(point)) {
                int height = Math.max(best[point], heights[other]);
                if (height < best[other]) {
                    best[other] = height;
                    open.addLast(other);
                }
            }
        }
        int least = 1000;
        for (int point = 0; point < 49; point++) {
            if (neighbours(point).size() < 4) {
                least = Math.min(least, best[point]);
            }
        }
        return least;
    }

    public int spillByWays(int row, int column) {
        return spill(point(row, column));
    }

    public int spillByLevels(int row, int column) {
        return spill(point(row, column));
    }

    public int depthOf(int row, int column) {
        int point = point(row, column);
        return spill(point) - heights[point];
    }

    public int water() {
        int total = 0;
        for (int point = 0; point < 49; point++) {
            total += spill(point) - heights[point];
        }
        return total;
    }

    public int ponds() {
        Set<Integer> points = new HashSet<>();
        for (int point = 0; point < 49; point++) {
            if (spill(point) > heights[point]) {
                points.add(point);
            }
        }
        return regions(points, false);
    }

    private static int between(int from, int to, int at, int steps) {
        if (steps == 0) {
            return from;
        }
        double place = from + at * (to - from) / (double) steps;
        return (int) Math.floor(place + 0.5 + 1e-9);
    }

    private List<Integer> cut(int row, int column, int toRow, int toColumn) {
        int steps = Math.max(Math.abs(toRow - row), Math.abs(toColumn - column));
        List<Integer> all = new ArrayList<>();
        for (int at = 0; at <= steps; at++) {
            all.add(heights[7 * between(row, toRow, at, steps) + between(column, toColumn, at, steps)]);
        }
        return all;
    }

    public int cutLength(int row, int column, int toRow, int toColumn) {
        need(on(row, column) && on(toRow, toColumn));
        return cut(row, column, toRow, toColumn).size();
    }

    public int cutHeight(int row, int column, int toRow, int toColumn, int at) {
        need(on(row, column) && on(toRow, toColumn));
        List<Integer> cut = cut(row, column, toRow, toColumn);
        need(at >= 0 && at < cut.size());
        return cut.get(at);
    }

    public int climb(int row, int column, int toRow, int toColumn) {
        need(on(row, column) && on(toRow, toColumn));
        List<Integer> cut = cut(row, column, toRow, toColumn);
        int total = 0;
        for (int at = 0; at + 1 < cut.size(); at++) {
            total += cut.get(at + 1) > cut.get(at) ? cut.get(at + 1) - cut.get(at) : 0;
        }
        return total;
    }

    public int pass(int row, int column, int toRow, int toColumn) {
        need(on(row, column) && on(toRow, toColumn));
        return cut(row, column, toRow, toColumn).stream().max(Integer::compare).get();
    }

    public boolean sees(int row, int column, int toRow, int toColumn) {
        need(on(row, column) && on(toRow, toColumn));
        List<Integer> cut = cut(row, column, toRow, toColumn);
        int steps = cut.size() - 1;
        for (int at = 1; at < steps; at++) {
            if ((cut.get(at) - cut.get(0)) * steps > at * (cut.get(steps) - cut.get(0))) {
                return false;
            }
        }
        return true;
    }

    public int seenFrom(int row, int column) {
        point(row, column);
        int count = -1;
        for (int point = 0; point < 49; point++) {
            count += sees(row, column, point / 7, point % 7) ? 1 : 0;
        }
        return count;
    }

    public int lookout() {
        int best = 0;
        Map<Integer, Integer> first = new HashMap<>();
        for (int point = 48; point >= 0; point--) {
            int seen = seenFrom(point / 7, point % 7);
            first.put(seen, point);
            best = Math.max(best, seen);
        }
        return first.get(best);
    }

    public double meanDrop() {
        double total = 0;
        for (int point = 0; point < 49; point++) {
            total += dropOf(point / 7, point % 7);
        }
        return total / 49;
    }

    public long digest() {
        List<Long> values = new ArrayList<>();
        for (int row = 0; row < 7; row++) {
            for (int column = 0; column < 7; column++) {
                add(values, heightOf(row, column), dropOf(row, column), sinkOf(row, column), flowAt(row, column),
                    stepsToSink(row, column), basinByFollowing(row, column), basinByGoingUp(row, column),
                    spillByWays(row, column), spillByLevels(row, column), depthOf(row, column), seenFrom(row, column));
            }
        }
        add(values, summit(), bulk());
        for (int level = 10; level <= 70; level += 20) {
            add(values, pointsAbove(level), bulkAbove(level), crossingsByEdges(level), crossingsByPieces(level),
                linesByTracing(level), linesByRegions(level), closedLines(level), longestLine(level), hills(level), hollows(level));
        }
        add(values, sinks(), greatestBasin(), water(), ponds(), lookout(), savedStates());
        add(values, Double.doubleToLongBits(meanDrop()));
        add(values, slots[0] == null ? 0 : 1, slots[1] == null ? 0 : 1, buffer.length());
        buffer.chars().forEach(code -> add(values, code));
        long hash = 4373;
        for (long value : values) {
            hash = 31 * hash + value;
        }
        return hash;
    }

    private static void add(List<Long> values, long... more) {
        for (long value : more) {
            values.add(value);
        }
    }
}
