import java.util.Arrays;

/**
 * Hills by lines, a map room: a map of 7 by 7 heights, its lines of levels, slopes, ponds and cuts.
 *
 * A point is told inside by one number, 7 times its row and its column, together; NONE stands for
 * "there is none". All rows that a call needs are made once, with the object, and used again.
 */
public final class HillLines {
    private static final int NONE = -1;
    private static final int SIDE = 7;
    private static final int POINTS = SIDE * SIDE;
    private static final int LAST_HEIGHT = 99;
    private static final int LAST_LEVEL = 98;
    private static final int LAST_AMOUNT = 60;
    private static final int LAST_SHOWERS = 50;
    private static final int FIRST_CODE = 33;
    private static final int LAST_CODE = 126;
    private static final int BUFFER_LENGTH = 60;
    private static final int SLOTS = 2;
    private static final int STATES = 6;
    private static final int SQUARES = SIDE - 1;
    private static final int PIECES = 2 * SQUARES * SQUARES;
    private static final int EDGES_ACROSS = SIDE * SQUARES;
    private static final int EDGES = 2 * EDGES_ACROSS;
    private static final long DIGEST_START = 4373L;
    private static final int EXPONENT_OF_ONE = 1023;
    private static final int FRACTION_BITS = 52;
    private static final int EXPONENTS = 2100;

    /** How many of the steps below lead to neighbours, and how many to these or corner to corner. */
    private static final int NEIGHBOURS = 4;
    private static final int NEIGHBOURS_AND_CORNERS = 8;
    private static final int[] ROW_STEPS = {-1, 0, 1, 0, -1, 1, 1, -1};
    private static final int[] COLUMN_STEPS = {0, 1, 0, -1, 1, 1, -1, -1};
    private static final int[] DIGEST_LEVELS = {10, 30, 50, 70};

    private final Relief relief;
    private final Regions regions;
    private final Lines lines;
    private final Slopes slopes;
    private final Ponds ponds;
    private final Cut cut;
    private final Sights sights;
    private final Orders orders;
    private final History history;

    public HillLines() {
        relief = new Relief();
        regions = new Regions();
        lines = new Lines();
        slopes = new Slopes();
        ponds = new Ponds();
        cut = new Cut();
        sights = new Sights();
        orders = new Orders();
        history = new History();
    }

    // ---- heights

    public int set(int row, int column, int height) throws IndexOutOfBoundsException, IllegalArgumentException {
        int point = knownPoint(row, column);
        if (height < 0 || height > LAST_HEIGHT) {
            throw new IllegalArgumentException("the height is out of range");
        }
        history.save(relief);
        int before = relief.at(point);
        relief.put(point, height);
        return before;
    }

    public int heap(int row, int column, int amount) throws IndexOutOfBoundsException, IllegalArgumentException {
        int point = knownPoint(row, column);
        if (amount < -LAST_AMOUNT || amount > LAST_AMOUNT || amount == 0) {
            throw new IllegalArgumentException("the amount is out of range, or 0");
        }
        history.save(relief);
        return relief.heapUp(point, amount);
    }

    public int smooth() {
        history.save(relief);
        return relief.smoothOut();
    }

    public int wash(int showers) throws IllegalArgumentException {
        if (showers < 1 || showers > LAST_SHOWERS) {
            throw new IllegalArgumentException("showers is out of range");
        }
        history.save(relief);
        int given = 0;
        for (int shower = 0; shower < showers; shower++) {
            slopes.read(relief);
            given += relief.washDown(slopes);
        }
        return given;
    }

    public int turnMap() {
        history.save(relief);
        return relief.turnRight();
    }

    // ---- texts

    public int append(int code) throws IllegalArgumentException, IllegalStateException {
        if (code < FIRST_CODE || code > LAST_CODE) {
            throw new IllegalArgumentException("the code is not 33 to 126");
        }
        if (orders.size() >= BUFFER_LENGTH) {
            throw new IllegalStateException("the buffer is full");
        }
        orders.add(code);
        return orders.size();
    }

    public int clearBuffer() {
        int before = orders.size();
        orders.drop();
        return before;
    }

    public int firstError() {
        return orders.read();
    }

    public int draw() throws IllegalArgumentException {
        if (!orders.areWhole()) {
            throw new IllegalArgumentException("the buffer does not tell orders as a text");
        }
        history.save(relief);
        int drawn = orders.drawOn(relief);
        orders.drop();
        return drawn;
    }

    // ---- snapshots, undo

    public void keep(int slot) throws IllegalArgumentException {
        checkSlot(slot);
        history.take(slot, relief);
    }

    public void goBack(int slot) throws IllegalArgumentException, IllegalStateException {
        checkSlot(slot);
        if (!history.isTaken(slot)) {
            throw new IllegalStateException("there is no snapshot in the slot");
        }
        history.save(relief);
        history.restore(slot, relief);
    }

    public void undo() throws IllegalStateException {
        if (history.size() == 0) {
            throw new IllegalStateException("there is no saved state");
        }
        history.takeBack(relief);
    }

    public int savedStates() {
        return history.size();
    }

    // ---- heights as they are; nothing is changed

    public int heightOf(int row, int column) throws IndexOutOfBoundsException {
        return relief.at(knownPoint(row, column));
    }

    public int summit() {
        int best = 0;
        for (int point = 1; point < POINTS; point++) {
            if (relief.at(point) > relief.at(best)) {
                best = point;
            }
        }
        return best;
    }

    public int bulk() {
        int total = 0;
        for (int point = 0; point < POINTS; point++) {
            total += relief.at(point);
        }
        return total;
    }

    public int pointsAbove(int level) throws IllegalArgumentException {
        checkLevel(level);
        int count = 0;
        for (int point = 0; point < POINTS; point++) {
            if (relief.at(point) > level) {
                count++;
            }
        }
        return count;
    }

    public int bulkAbove(int level) throws IllegalArgumentException {
        checkLevel(level);
        int total = 0;
        for (int point = 0; point < POINTS; point++) {
            total += Math.max(0, relief.at(point) - level);
        }
        return total;
    }

    // ---- lines; nothing is changed

    public int crossingsByEdges(int level) throws IllegalArgumentException {
        checkLevel(level);
        int crossed = 0;
        for (int point = 0; point < POINTS; point++) {
            boolean high = relief.at(point) > level;
            int right = stepFrom(point, 1);
            int below = stepFrom(point, 2);
            if (right != NONE && high != relief.at(right) > level) {
                crossed++;
            }
            if (below != NONE && high != relief.at(below) > level) {
                crossed++;
            }
        }
        return crossed;
    }

    public int crossingsByPieces(int level) throws IllegalArgumentException {
        checkLevel(level);
        lines.read(relief, level);
        return lines.crossedEdges();
    }

    public int piecesIn(int row, int column, int level) throws IndexOutOfBoundsException, IllegalArgumentException {
        if (row < 0 || row >= SQUARES || column < 0 || column >= SQUARES) {
            throw new IndexOutOfBoundsException("there is no such square");
        }
        checkLevel(level);
        lines.read(relief, level);
        return lines.crossedSides(row, column) / 2;
    }

    public int linesByTracing(int level) throws IllegalArgumentException {
        checkLevel(level);
        lines.read(relief, level);
        lines.trace();
        return lines.total();
    }

    public int linesByRegions(int level) throws IllegalArgumentException {
        checkLevel(level);
        return regionsAbove(level) + regionsNotAbove(level) - 1;
    }

    public int closedLines(int level) throws IllegalArgumentException {
        checkLevel(level);
        lines.read(relief, level);
        lines.trace();
        return lines.closed();
    }

    public int longestLine(int level) throws IllegalArgumentException {
        checkLevel(level);
        lines.read(relief, level);
        lines.trace();
        return lines.longest();
    }

    public int hills(int level) throws IllegalArgumentException {
        checkLevel(level);
        return regionsAbove(level);
    }

    public int hollows(int level) throws IllegalArgumentException {
        checkLevel(level);
        return regionsNotAbove(level);
    }

    // ---- slopes, basins; nothing is changed

    public int drainOf(int row, int column) throws IndexOutOfBoundsException, IllegalStateException {
        int point = knownPoint(row, column);
        slopes.read(relief);
        if (slopes.isLowest(point)) {
            throw new IllegalStateException("the point is a sink");
        }
        return slopes.next(point);
    }

    public boolean isSink(int row, int column) throws IndexOutOfBoundsException {
        int point = knownPoint(row, column);
        slopes.read(relief);
        return slopes.isLowest(point);
    }

    public int dropOf(int row, int column) throws IndexOutOfBoundsException {
        int point = knownPoint(row, column);
        slopes.read(relief);
        return slopes.drop(point);
    }

    public int sinkOf(int row, int column) throws IndexOutOfBoundsException {
        int point = knownPoint(row, column);
        slopes.read(relief);
        return slopes.end(point);
    }

    public int basinByFollowing(int row, int column) throws IndexOutOfBoundsException {
        int point = knownPoint(row, column);
        slopes.read(relief);
        return slopes.countFollowing(point);
    }

    public int basinByGoingUp(int row, int column) throws IndexOutOfBoundsException {
        int point = knownPoint(row, column);
        slopes.read(relief);
        return slopes.isLowest(point) ? slopes.countGoingUp(point) : 0;
    }

    public int flowAt(int row, int column) throws IndexOutOfBoundsException {
        int point = knownPoint(row, column);
        slopes.read(relief);
        return slopes.countGoingUp(point);
    }

    public int stepsToSink(int row, int column) throws IndexOutOfBoundsException {
        int point = knownPoint(row, column);
        slopes.read(relief);
        return slopes.steps(point);
    }

    public int sinks() {
        slopes.read(relief);
        int count = 0;
        for (int point = 0; point < POINTS; point++) {
            if (slopes.isLowest(point)) {
                count++;
            }
        }
        return count;
    }

    public int greatestBasin() {
        slopes.read(relief);
        int best = 0;
        int most = 0;
        for (int point = 0; point < POINTS; point++) {
            int size = slopes.isLowest(point) ? slopes.countGoingUp(point) : 0;
            if (size > most) {
                most = size;
                best = point;
            }
        }
        return best;
    }

    // ---- ponds; nothing is changed

    public int spillByWays(int row, int column) throws IndexOutOfBoundsException {
        int point = knownPoint(row, column);
        ponds.readByWays(relief);
        return ponds.wayHeight(point);
    }

    public int spillByLevels(int row, int column) throws IndexOutOfBoundsException {
        int point = knownPoint(row, column);
        ponds.readByLevels(relief, regions);
        return ponds.levelHeight(point);
    }

    public int depthOf(int row, int column) throws IndexOutOfBoundsException {
        int point = knownPoint(row, column);
        ponds.readByWays(relief);
        return ponds.wayHeight(point) - relief.at(point);
    }

    public int water() {
        ponds.readByWays(relief);
        int total = 0;
        for (int point = 0; point < POINTS; point++) {
            total += ponds.wayHeight(point) - relief.at(point);
        }
        return total;
    }

    public int ponds() {
        ponds.readByWays(relief);
        regions.clear();
        for (int point = 0; point < POINTS; point++) {
            if (ponds.wayHeight(point) > relief.at(point)) {
                regions.add(point);
            }
        }
        return regions.count(NEIGHBOURS);
    }

    // ---- cuts; nothing is changed

    public int cutLength(int row, int column, int toRow, int toColumn) throws IndexOutOfBoundsException {
        int from = knownPoint(row, column);
        int to = knownPoint(toRow, toColumn);
        cut.lay(relief, from, to);
        return cut.last() + 1;
    }

    public int cutHeight(int row, int column, int toRow, int toColumn, int at) throws IndexOutOfBoundsException {
        int from = knownPoint(row, column);
        int to = knownPoint(toRow, toColumn);
        cut.lay(relief, from, to);
        if (at < 0 || at > cut.last()) {
            throw new IndexOutOfBoundsException("the cut has not so many points");
        }
        return cut.height(at);
    }

    public int climb(int row, int column, int toRow, int toColumn) throws IndexOutOfBoundsException {
        int from = knownPoint(row, column);
        int to = knownPoint(toRow, toColumn);
        cut.lay(relief, from, to);
        return cut.rise();
    }

    public int pass(int row, int column, int toRow, int toColumn) throws IndexOutOfBoundsException {
        int from = knownPoint(row, column);
        int to = knownPoint(toRow, toColumn);
        cut.lay(relief, from, to);
        return cut.top();
    }

    public boolean sees(int row, int column, int toRow, int toColumn) throws IndexOutOfBoundsException {
        int from = knownPoint(row, column);
        int to = knownPoint(toRow, toColumn);
        cut.lay(relief, from, to);
        return cut.isClear();
    }

    public int seenFrom(int row, int column) throws IndexOutOfBoundsException {
        int point = knownPoint(row, column);
        return sights.countFrom(relief, cut, point);
    }

    public int lookout() {
        sights.read(relief, cut);
        return sights.best();
    }

    public double meanDrop() {
        slopes.read(relief);
        int total = 0;
        for (int point = 0; point < POINTS; point++) {
            total += slopes.drop(point);
        }
        return (double) total / POINTS;
    }

    public long digest() {
        sights.read(relief, cut);
        long hash = digestPoints(DIGEST_START);
        hash = mix(hash, summit());
        hash = mix(hash, bulk());
        for (int level : DIGEST_LEVELS) {
            hash = digestLevel(hash, level);
        }
        hash = mix(hash, sinks());
        hash = mix(hash, greatestBasin());
        hash = mix(hash, water());
        hash = mix(hash, ponds());
        hash = mix(hash, sights.best());
        hash = mix(hash, savedStates());
        hash = mix(hash, bitsOf(meanDrop()));
        for (int slot = 0; slot < SLOTS; slot++) {
            hash = mix(hash, history.isTaken(slot) ? 1 : 0);
        }
        hash = mix(hash, orders.size());
        for (int index = 0; index < orders.size(); index++) {
            hash = mix(hash, orders.code(index));
        }
        return hash;
    }

    /** The sights are to be read ahead of it. */
    private long digestPoints(long start) {
        slopes.read(relief);
        ponds.readByWays(relief);
        ponds.readByLevels(relief, regions);
        long hash = start;
        for (int point = 0; point < POINTS; point++) {
            int flow = slopes.countGoingUp(point);
            hash = mix(hash, relief.at(point));
            hash = mix(hash, slopes.drop(point));
            hash = mix(hash, slopes.end(point));
            hash = mix(hash, flow);
            hash = mix(hash, slopes.steps(point));
            hash = mix(hash, slopes.countFollowing(point));
            hash = mix(hash, slopes.isLowest(point) ? flow : 0);
            hash = mix(hash, ponds.wayHeight(point));
            hash = mix(hash, ponds.levelHeight(point));
            hash = mix(hash, ponds.wayHeight(point) - relief.at(point));
            hash = mix(hash, sights.count(point));
        }
        return hash;
    }

    private long digestLevel(long start, int level) {
        long hash = mix(start, pointsAbove(level));
        hash = mix(hash, bulkAbove(level));
        hash = mix(hash, crossingsByEdges(level));
        lines.read(relief, level);
        lines.trace();
        int above = regionsAbove(level);
        int notAbove = regionsNotAbove(level);
        hash = mix(hash, lines.crossedEdges());
        hash = mix(hash, lines.total());
        hash = mix(hash, above + notAbove - 1);
        hash = mix(hash, lines.closed());
        hash = mix(hash, lines.longest());
        hash = mix(hash, above);
        return mix(hash, notAbove);
    }

    private static long mix(long hash, long value) {
        return 31 * hash + value;
    }

    /**
     * The bits of a double that is 0 or more and not tiny, told by halving and doubling it, which
     * are exact: the library's own call for it is not among those that may be used.
     */
    private static long bitsOf(double value) {
        if (!(value > 0)) {
            return 0L;
        }
        double scaled = value;
        int exponent = EXPONENT_OF_ONE;
        for (int halved = 0; halved < EXPONENTS && scaled >= 2; halved++) {
            scaled = scaled / 2;
            exponent++;
        }
        for (int doubled = 0; doubled < EXPONENTS && scaled < 1; doubled++) {
            scaled = scaled * 2;
            exponent--;
        }
        long one = 1L << FRACTION_BITS;
        long fraction = (long) (scaled * one) - one;
        return ((long) exponent << FRACTION_BITS) + fraction;
    }

    private int regionsAbove(int level) {
        regions.clear();
        for (int point = 0; point < POINTS; point++) {
            if (relief.at(point) > level) {
                regions.add(point);
            }
        }
        return regions.count(NEIGHBOURS);
    }

    private int regionsNotAbove(int level) {
        regions.clear();
        for (int point = 0; point < POINTS; point++) {
            if (relief.at(point) <= level) {
                regions.add(point);
            }
        }
        return regions.count(NEIGHBOURS_AND_CORNERS);
    }

    private static int knownPoint(int row, int column) {
        int point = pointAt(row, column);
        if (point == NONE) {
            throw new IndexOutOfBoundsException("there is no such point");
        }
        return point;
    }

    private static void checkLevel(int level) {
        if (level < 0 || level > LAST_LEVEL) {
            throw new IllegalArgumentException("the level is out of range");
        }
    }

    private static void checkSlot(int slot) {
        if (slot < 0 || slot >= SLOTS) {
            throw new IllegalArgumentException("the slot is out of range");
        }
    }

    private static int pointAt(int row, int column) {
        if (row < 0 || row >= SIDE || column < 0 || column >= SIDE) {
            return NONE;
        }
        return row * SIDE + column;
    }

    private static boolean isPoint(int point) {
        return point >= 0 && point < POINTS;
    }

    /** The point a step away, in the order above, right, below, left, then the corners; or NONE. */
    private static int stepFrom(int point, int step) {
        if (!isPoint(point) || step < 0 || step >= ROW_STEPS.length || step >= COLUMN_STEPS.length) {
            return NONE;
        }
        return pointAt(point / SIDE + ROW_STEPS[step], point % SIDE + COLUMN_STEPS[step]);
    }

    private static boolean isBorder(int point) {
        int row = point / SIDE;
        int column = point % SIDE;
        return row == 0 || row == SIDE - 1 || column == 0 || column == SIDE - 1;
    }

    /** The heights of the map, and what changes them. */
    private static final class Relief {
        private final int[] heights = new int[POINTS];
        private final int[] old = new int[POINTS];
        private final int[] change = new int[POINTS];

        int at(int point) {
            return isPoint(point) ? heights[point] : 0;
        }

        void put(int point, int height) {
            if (isPoint(point)) {
                heights[point] = Math.max(0, Math.min(LAST_HEIGHT, height));
            }
        }

        boolean has(int height) {
            for (int point = 0; point < POINTS; point++) {
                if (heights[point] == height) {
                    return true;
                }
            }
            return false;
        }

        int heapUp(int centre, int amount) {
            remember();
            int whole = Math.abs(amount);
            int third = (whole + 2) / 3;
            for (int point = 0; point < POINTS; point++) {
                int rows = Math.abs(point / SIDE - centre / SIDE);
                int columns = Math.abs(point % SIDE - centre % SIDE);
                int left = whole - (rows + columns) * third;
                if (left > 0) {
                    put(point, heights[point] + (amount > 0 ? left : -left));
                }
            }
            return countChanged();
        }

        int smoothOut() {
            remember();
            for (int point = 0; point < POINTS; point++) {
                put(point, oldMean(point));
            }
            return countChanged();
        }

        private int oldMean(int point) {
            int total = 0;
            int count = 0;
            if (isPoint(point)) {
                total = old[point];
                count = 1;
            }
            for (int step = 0; step < NEIGHBOURS; step++) {
                int neighbour = stepFrom(point, step);
                if (isPoint(neighbour)) {
                    total += old[neighbour];
                    count++;
                }
            }
            return count == 0 ? 0 : total / count;
        }

        /** One shower. All changes are gathered first: each point gives by what was ahead of it. */
        int washDown(Slopes slopes) {
            Arrays.fill(change, 0);
            int given = 0;
            for (int point = 0; point < POINTS; point++) {
                int next = slopes.next(point);
                if (isPoint(next) && heights[point] - heights[next] >= 2) {
                    change[point]--;
                    change[next]++;
                    given++;
                }
            }
            for (int point = 0; point < POINTS; point++) {
                put(point, heights[point] + change[point]);
            }
            return given;
        }

        int turnRight() {
            remember();
            for (int point = 0; point < POINTS; point++) {
                int from = pointAt(SIDE - 1 - point % SIDE, point / SIDE);
                if (isPoint(from)) {
                    put(point, old[from]);
                }
            }
            return countChanged();
        }

        void writeTo(int[] store, int place) {
            int start = place * POINTS;
            if (place >= 0 && start >= 0 && start <= store.length - POINTS) {
                System.arraycopy(heights, 0, store, start, POINTS);
            }
        }

        void readFrom(int[] store, int place) {
            int start = place * POINTS;
            if (place >= 0 && start >= 0 && start <= store.length - POINTS) {
                System.arraycopy(store, start, heights, 0, POINTS);
            }
        }

        private void remember() {
            System.arraycopy(heights, 0, old, 0, POINTS);
        }

        private int countChanged() {
            int count = 0;
            for (int point = 0; point < POINTS; point++) {
                if (heights[point] != old[point]) {
                    count++;
                }
            }
            return count;
        }
    }

    /** The saved states and the slots. */
    private static final class History {
        private final int[] saved = new int[STATES * POINTS];
        private final int[] slots = new int[SLOTS * POINTS];
        private final boolean[] taken = new boolean[SLOTS];
        private int count = 0;

        void save(Relief relief) {
            if (count >= STATES) {
                System.arraycopy(saved, POINTS, saved, 0, (STATES - 1) * POINTS);
                count = STATES - 1;
            }
            relief.writeTo(saved, count);
            count++;
        }

        void takeBack(Relief relief) {
            if (count > 0) {
                count--;
                relief.readFrom(saved, count);
            }
        }

        int size() {
            return count;
        }

        void take(int slot, Relief relief) {
            if (slot >= 0 && slot < SLOTS) {
                relief.writeTo(slots, slot);
                taken[slot] = true;
            }
        }

        boolean isTaken(int slot) {
            return slot >= 0 && slot < SLOTS && taken[slot];
        }

        void restore(int slot, Relief relief) {
            if (isTaken(slot)) {
                relief.readFrom(slots, slot);
            }
        }
    }

    /** The buffer, read from left to right: its orders, and where they go wrong. */
    private static final class Orders {
        private static final int AT_LETTER = 0;
        private static final int AT_ROW = 1;
        private static final int AT_COLUMN = 2;
        private static final int AT_SIGN = 3;
        private static final int AT_NUMBER = 4;
        private static final int IN_NUMBER = 5;
        private static final int AT_END = 6;

        private final int[] codes = new int[BUFFER_LENGTH];
        private int length = 0;
        private int place = AT_LETTER;
        private int letter = 0;
        private int row = 0;
        private int column = 0;
        private int number = 0;

        int size() {
            return length;
        }

        int code(int index) {
            return index >= 0 && index < length && index < BUFFER_LENGTH ? codes[index] : 0;
        }

        void add(int code) {
            if (length >= 0 && length < BUFFER_LENGTH) {
                codes[length] = code;
                length++;
            }
        }

        void drop() {
            length = 0;
        }

        /** Reads as far as it goes; answers the index of the first error, or the length. */
        int read() {
            place = AT_LETTER;
            for (int index = 0; index < length; index++) {
                if (!fits(code(index))) {
                    return index;
                }
                step(code(index));
            }
            return length;
        }

        boolean areWhole() {
            return read() == length && place >= IN_NUMBER;
        }

        int drawOn(Relief relief) {
            int drawn = 0;
            place = AT_LETTER;
            for (int index = 0; index < length; index++) {
                if (code(index) == ';') {
                    carryOut(relief);
                    drawn++;
                }
                step(code(index));
            }
            carryOut(relief);
            return drawn + 1;
        }

        private void carryOut(Relief relief) {
            switch (letter) {
                case 's':
                    relief.put(pointAt(row, column), number);
                    break;
                case 'h':
                    relief.heapUp(pointAt(row, column), number);
                    break;
                case 'd':
                    relief.heapUp(pointAt(row, column), -number);
                    break;
                default:
                    relief.smoothOut();
                    break;
            }
        }

        /** Tells whether orders can go on with a character here. */
        private boolean fits(int code) {
            switch (place) {
                case AT_LETTER:
                    return code == 's' || code == 'h' || code == 'd' || code == '~';
                case AT_ROW:
                case AT_COLUMN:
                    return code >= '0' && code < '0' + SIDE;
                case AT_SIGN:
                    return code == (letter == 's' ? '=' : '*');
                case AT_NUMBER:
                    return code >= (letter == 's' ? '0' : '1') && code <= '9';
                case IN_NUMBER:
                    return code == ';' || isSecondDigit(code);
                default:
                    return code == ';';
            }
        }

        private boolean isSecondDigit(int code) {
            int last = letter == 's' ? LAST_HEIGHT : LAST_AMOUNT;
            return code >= '0' && code <= '9' && number > 0 && number * 10 + (code - '0') <= last;
        }

        /** Goes on with a character that fits. */
        private void step(int code) {
            switch (place) {
                case AT_LETTER:
                    letter = code;
                    place = code == '~' ? AT_END : AT_ROW;
                    break;
                case AT_ROW:
                    row = code - '0';
                    place = AT_COLUMN;
                    break;
                case AT_COLUMN:
                    column = code - '0';
                    place = AT_SIGN;
                    break;
                case AT_SIGN:
                    place = AT_NUMBER;
                    break;
                case AT_NUMBER:
                    number = code - '0';
                    place = IN_NUMBER;
                    break;
                default:
                    stepBehindNumber(code);
                    break;
            }
        }

        private void stepBehindNumber(int code) {
            if (code == ';') {
                place = AT_LETTER;
            } else {
                number = number * 10 + (code - '0');
                place = AT_END;
            }
        }
    }

    /** Points that belong, and how they hang together. */
    private static final class Regions {
        private final boolean[] waiting = new boolean[POINTS];
        private final int[] queue = new int[POINTS];

        void clear() {
            for (int point = 0; point < POINTS; point++) {
                waiting[point] = false;
            }
        }

        void add(int point) {
            if (isPoint(point)) {
                waiting[point] = true;
            }
        }

        /** Tells whether a point belongs and has not been reached. */
        boolean isWaiting(int point) {
            return isPoint(point) && waiting[point];
        }

        int count(int steps) {
            int regions = 0;
            for (int point = 0; point < POINTS; point++) {
                if (waiting[point]) {
                    regions++;
                    reach(point, steps);
                }
            }
            return regions;
        }

        /** Reaches all points that hang together with a point that is waiting. */
        void reach(int start, int steps) {
            if (!isWaiting(start)) {
                return;
            }
            waiting[start] = false;
            queue[0] = start;
            int end = 1;
            for (int head = 0; head < end && head < POINTS; head++) {
                for (int step = 0; step < steps; step++) {
                    int other = stepFrom(queue[head], step);
                    if (isWaiting(other) && end < POINTS) {
                        waiting[other] = false;
                        queue[end] = other;
                        end++;
                    }
                }
            }
        }
    }

    /**
     * The pieces of the lines of a level, and the lines by going along them.
     *
     * A square's corners and sides are numbered clockwise, from its upper left corner and its upper
     * side: a side stands between the corner of its number and the next one.
     */
    private static final class Lines {
        private static final int[] CORNER_ROWS = {0, 0, 1, 1};
        private static final int[] CORNER_COLUMNS = {0, 1, 1, 0};
        private static final int SIDES = 4;

        private final boolean[] high = new boolean[POINTS];
        private final int[] firstEdge = new int[PIECES];
        private final int[] secondEdge = new int[PIECES];
        private final boolean[] gone = new boolean[PIECES];
        private final int[] firstPiece = new int[EDGES];
        private final int[] secondPiece = new int[EDGES];
        private int pieces = 0;
        private int total = 0;
        private int closed = 0;
        private int longest = 0;

        void read(Relief relief, int level) {
            for (int point = 0; point < POINTS; point++) {
                high[point] = relief.at(point) > level;
            }
            Arrays.fill(firstPiece, NONE);
            Arrays.fill(secondPiece, NONE);
            pieces = 0;
            for (int row = 0; row < SQUARES; row++) {
                for (int column = 0; column < SQUARES; column++) {
                    readSquare(row, column);
                }
            }
        }

        private void readSquare(int row, int column) {
            int crossed = crossedSides(row, column);
            if (crossed == SIDES) {
                for (int corner = 0; corner < SIDES; corner++) {
                    if (isHigh(row, column, corner)) {
                        addPiece(edgeOf(row, column, (corner + SIDES - 1) % SIDES), edgeOf(row, column, corner));
                    }
                }
            } else if (crossed > 0) {
                int first = NONE;
                for (int side = 0; side < SIDES; side++) {
                    if (isCrossed(row, column, side)) {
                        if (first == NONE) {
                            first = edgeOf(row, column, side);
                        } else {
                            addPiece(first, edgeOf(row, column, side));
                        }
                    }
                }
            }
        }

        int crossedSides(int row, int column) {
            int crossed = 0;
            for (int side = 0; side < SIDES; side++) {
                if (isCrossed(row, column, side)) {
                    crossed++;
                }
            }
            return crossed;
        }

        private boolean isCrossed(int row, int column, int side) {
            return isHigh(row, column, side) != isHigh(row, column, (side + 1) % SIDES);
        }

        private boolean isHigh(int row, int column, int corner) {
            if (corner < 0 || corner >= CORNER_ROWS.length || corner >= CORNER_COLUMNS.length) {
                return false;
            }
            int point = pointAt(row + CORNER_ROWS[corner], column + CORNER_COLUMNS[corner]);
            return isPoint(point) && high[point];
        }

        /** Edges between a point and the one to its right come first, then those to the one below. */
        private static int edgeOf(int row, int column, int side) {
            switch (side) {
                case 0:
                    return row * SQUARES + column;
                case 1:
                    return EDGES_ACROSS + row * SIDE + column + 1;
                case 2:
                    return (row + 1) * SQUARES + column;
                default:
                    return EDGES_ACROSS + row * SIDE + column;
            }
        }

        private void addPiece(int first, int second) {
            if (pieces >= 0 && pieces < PIECES) {
                firstEdge[pieces] = first;
                secondEdge[pieces] = second;
                endPiece(first, pieces);
                endPiece(second, pieces);
                pieces++;
            }
        }

        private void endPiece(int edge, int piece) {
            if (edge < 0 || edge >= EDGES) {
                return;
            }
            if (firstPiece[edge] == NONE) {
                firstPiece[edge] = piece;
            } else {
                secondPiece[edge] = piece;
            }
        }

        /** An edge inside the map has an end on either side of it; one of the border has one alone. */
        private boolean isAtBorder(int edge) {
            return edge >= 0 && edge < EDGES && firstPiece[edge] != NONE && secondPiece[edge] == NONE;
        }

        int crossedEdges() {
            int ends = 2 * pieces;
            for (int edge = 0; edge < EDGES; edge++) {
                if (isAtBorder(edge)) {
                    ends++;
                }
            }
            return ends / 2;
        }

        /** Lines from border to border are gone along first: what is left then is closed. */
        void trace() {
            total = 0;
            closed = 0;
            longest = 0;
            for (int piece = 0; piece < PIECES; piece++) {
                gone[piece] = false;
            }
            for (int edge = 0; edge < EDGES; edge++) {
                if (isAtBorder(edge) && isAhead(firstPiece[edge])) {
                    goAlong(firstPiece[edge], edge);
                }
            }
            int open = total;
            for (int piece = 0; piece < pieces && piece < PIECES; piece++) {
                if (isAhead(piece)) {
                    goAlong(piece, firstEdge[piece]);
                }
            }
            closed = total - open;
        }

        private void goAlong(int startPiece, int startEdge) {
            int piece = startPiece;
            int edge = startEdge;
            int length = 0;
            for (int step = 0; step < PIECES && isAhead(piece); step++) {
                gone[piece] = true;
                length++;
                edge = firstEdge[piece] == edge ? secondEdge[piece] : firstEdge[piece];
                piece = pieceBehind(edge, piece);
            }
            total++;
            longest = Math.max(longest, length);
        }

        private boolean isAhead(int piece) {
            return piece >= 0 && piece < pieces && piece < PIECES && !gone[piece];
        }

        private int pieceBehind(int edge, int piece) {
            if (edge < 0 || edge >= EDGES) {
                return NONE;
            }
            return firstPiece[edge] == piece ? secondPiece[edge] : firstPiece[edge];
        }

        int total() {
            return total;
        }

        int closed() {
            return closed;
        }

        int longest() {
            return longest;
        }
    }

    /** Where points drain. */
    private static final class Slopes {
        private final int[] nexts = new int[POINTS];
        private final int[] drops = new int[POINTS];
        private final int[] queue = new int[POINTS];

        void read(Relief relief) {
            for (int point = 0; point < POINTS; point++) {
                int lowest = point;
                for (int step = 0; step < NEIGHBOURS; step++) {
                    int neighbour = stepFrom(point, step);
                    if (neighbour != NONE && relief.at(neighbour) < relief.at(lowest)) {
                        lowest = neighbour;
                    }
                }
                nexts[point] = lowest == point ? NONE : lowest;
                drops[point] = relief.at(point) - relief.at(lowest);
            }
        }

        /** The neighbour to which a point drains, or NONE. */
        int next(int point) {
            return isPoint(point) ? nexts[point] : NONE;
        }

        boolean isLowest(int point) {
            return next(point) == NONE;
        }

        int drop(int point) {
            return isPoint(point) ? drops[point] : 0;
        }

        int end(int point) {
            int place = point;
            for (int step = 0; step < POINTS && !isLowest(place); step++) {
                place = next(place);
            }
            return place;
        }

        int steps(int point) {
            int place = point;
            int count = 0;
            for (int step = 0; step < POINTS && !isLowest(place); step++) {
                place = next(place);
                count++;
            }
            return count;
        }

        /** How many points end in a point; none do if it is no sink. */
        int countFollowing(int sink) {
            int count = 0;
            for (int point = 0; point < POINTS; point++) {
                if (end(point) == sink) {
                    count++;
                }
            }
            return count;
        }

        /** How many points drain through a point, itself among them. */
        int countGoingUp(int start) {
            queue[0] = start;
            int end = 1;
            for (int head = 0; head < end && head < POINTS; head++) {
                for (int step = 0; step < NEIGHBOURS; step++) {
                    int neighbour = stepFrom(queue[head], step);
                    if (neighbour != NONE && next(neighbour) == queue[head] && end < POINTS) {
                        queue[end] = neighbour;
                        end++;
                    }
                }
            }
            return end;
        }
    }

    /** How high water stands at each point, told in two ways. */
    private static final class Ponds {
        private final int[] ways = new int[POINTS];
        private final int[] levels = new int[POINTS];

        /** The longest way has fewer steps than there are points, and each round tells one more. */
        void readByWays(Relief relief) {
            for (int point = 0; point < POINTS; point++) {
                ways[point] = isBorder(point) ? relief.at(point) : LAST_HEIGHT;
            }
            boolean changed = true;
            for (int round = 0; round < POINTS && changed; round++) {
                changed = false;
                for (int point = 0; point < POINTS; point++) {
                    int height = Math.max(relief.at(point), leastAround(point));
                    if (height < ways[point]) {
                        ways[point] = height;
                        changed = true;
                    }
                }
            }
        }

        private int leastAround(int point) {
            int least = LAST_HEIGHT;
            for (int step = 0; step < NEIGHBOURS; step++) {
                int neighbour = stepFrom(point, step);
                if (isPoint(neighbour)) {
                    least = Math.min(least, ways[neighbour]);
                }
            }
            return least;
        }

        /**
         * From the highest level down, so that the least one at which a point is reached stays. At
         * a level that is no point's height nothing is reached that is not at the one below.
         */
        void readByLevels(Relief relief, Regions regions) {
            for (int level = LAST_HEIGHT; level >= 0; level--) {
                if (relief.has(level)) {
                    readLevel(relief, regions, level);
                }
            }
        }

        private void readLevel(Relief relief, Regions regions, int level) {
            regions.clear();
            for (int point = 0; point < POINTS; point++) {
                if (relief.at(point) <= level) {
                    regions.add(point);
                }
            }
            for (int point = 0; point < POINTS; point++) {
                if (isBorder(point)) {
                    regions.reach(point, NEIGHBOURS);
                }
            }
            for (int point = 0; point < POINTS; point++) {
                if (relief.at(point) <= level && !regions.isWaiting(point)) {
                    levels[point] = level;
                }
            }
        }

        int wayHeight(int point) {
            return isPoint(point) ? ways[point] : 0;
        }

        int levelHeight(int point) {
            return isPoint(point) ? levels[point] : 0;
        }
    }

    /** The heights on one cut. */
    private static final class Cut {
        private final int[] heights = new int[SIDE];
        private int last = 0;

        void lay(Relief relief, int from, int to) {
            int row = from / SIDE;
            int column = from % SIDE;
            int down = to / SIDE - row;
            int right = to % SIDE - column;
            last = Math.min(SIDE - 1, Math.max(Math.abs(down), Math.abs(right)));
            for (int at = 0; at <= last && at < SIDE; at++) {
                heights[at] = relief.at(pointAt(along(row, down, at), along(column, right, at)));
            }
        }

        private int along(int start, int difference, int at) {
            if (last <= 0) {
                return start;
            }
            return Math.floorDiv(2 * last * start + 2 * at * difference + last, 2 * last);
        }

        /** The index of the last point. */
        int last() {
            return last;
        }

        int height(int at) {
            return at >= 0 && at <= last && at < SIDE ? heights[at] : 0;
        }

        int rise() {
            int total = 0;
            for (int at = 1; at <= last; at++) {
                total += Math.max(0, height(at) - height(at - 1));
            }
            return total;
        }

        int top() {
            int most = 0;
            for (int at = 0; at <= last; at++) {
                most = Math.max(most, height(at));
            }
            return most;
        }

        /** Both sides are taken times the number of steps, so that nothing is rounded. */
        boolean isClear() {
            for (int at = 1; at < last; at++) {
                if (height(at) * last > (last - at) * height(0) + at * height(last)) {
                    return false;
                }
            }
            return true;
        }
    }

    /** How many other points are seen from each point. */
    private static final class Sights {
        private final int[] counts = new int[POINTS];

        void read(Relief relief, Cut cut) {
            for (int point = 0; point < POINTS; point++) {
                counts[point] = countFrom(relief, cut, point);
            }
        }

        int countFrom(Relief relief, Cut cut, int from) {
            int seen = 0;
            for (int point = 0; point < POINTS; point++) {
                if (point != from) {
                    cut.lay(relief, from, point);
                    if (cut.isClear()) {
                        seen++;
                    }
                }
            }
            return seen;
        }

        int count(int point) {
            return isPoint(point) ? counts[point] : 0;
        }

        /** The first point from which the most others are seen. */
        int best() {
            int best = 0;
            for (int point = 1; point < POINTS; point++) {
                if (count(point) > count(best)) {
                    best = point;
                }
            }
            return best;
        }
    }
}
