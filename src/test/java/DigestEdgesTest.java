import java.util.HashSet;
import java.util.Set;

/** Promise 52 at its boundaries: what the hash starts with, what is empty or full, and what is not in it. */
final class DigestEdgesTest {
    private static final Due DUE = new Due("DigestEdgesTest");

    public static void main(String[] args) {
        emptyAndFull();
        eachHeightCounts();
        eachSavedStateCounts();
        eachSlotCounts();
        eachCharacterCounts();
        whatIsNotInIt();
        meanDropAtPowersOfTwo();
        meanDropOfEachSize();
        digestLeavesAll();
        DUE.end();
    }

    /** Literal answers, told by the model. */
    private static void emptyAndFull() {
        HillLines map = new HillLines();
        DUE.same("a new object", map.digest(), -7134651361304252795L);
        map.keep(0);
        DUE.same("slot 0", map.digest(), -7134651361304251834L);
        map.keep(1);
        DUE.same("both slots", map.digest(), -7134651361304251803L);
        map.append('~');
        DUE.same("one character", map.digest(), 186736684082813656L);
        map.clearBuffer();
        DUE.same("none again", map.digest(), -7134651361304251803L);
        for (int state = 0; state < 6; state++) {
            map.smooth();
        }
        DUE.same("six states", map.digest(), -7134651361298710677L);
        map.smooth();
        DUE.same("six states still", map.digest(), -7134651361298710677L);
        Maps.write(map, "!~".repeat(30));
        DUE.same("60 characters", map.digest(), 3251829330651151373L);
        DUE.badState("a refused one", () -> map.append('~'));
        DUE.same("60 characters still", map.digest(), 3251829330651151373L);
        DUE.same("all at 99", Maps.flat(99).digest(), -889948628430149983L);
        DUE.same("heights of 0 to 48", Maps.numbered().digest(), 6857757180140307494L);
        HillLines hill = new HillLines();
        hill.heap(3, 3, 60);
        DUE.same("a hill", hill.digest(), 309848483734385158L);
        int[][] board = new int[7][7];
        for (int point = 0; point < 49; point += 2) {
            board[point / 7][point % 7] = 99;
        }
        DUE.same("a board", Maps.of(board).digest(), 3150325256716559613L);
    }

    private static void eachHeightCounts() {
        Set<Long> seen = new HashSet<>();
        for (int point = 0; point < 49; point++) {
            for (int height = 1; height <= 99; height += 49) {
                DUE.same("a height of its own: " + point, seen.add(Maps.with(point / 7, point % 7, height).digest()), true);
            }
        }
        DUE.same("the least and the greatest", seen.add(new HillLines().digest()), true);
    }

    private static void eachSavedStateCounts() {
        Set<Long> seen = new HashSet<>();
        HillLines map = new HillLines();
        for (int states = 0; states <= 6; states++) {
            DUE.same("saved states: " + states, seen.add(map.digest()), true);
            map.smooth();
        }
        DUE.same("not more than six", seen.add(map.digest()), false);
        map.undo();
        DUE.same("five again", seen.add(map.digest()), false);
    }

    private static void eachSlotCounts() {
        HillLines none = new HillLines();
        HillLines first = new HillLines();
        first.keep(0);
        HillLines second = new HillLines();
        second.keep(1);
        HillLines both = new HillLines();
        both.keep(1);
        both.keep(0);
        DUE.same("slot 1 counts 1", second.digest() - none.digest(), 31L);
        DUE.same("slot 0 counts 31 times 1", first.digest() - none.digest(), 31L * 31);
        DUE.same("both count", both.digest() - none.digest(), 31L * 31 + 31);
    }

    private static void eachCharacterCounts() {
        HillLines map = new HillLines();
        long empty = map.digest();
        for (int code = 33; code <= 126; code++) {
            map.append(code);
            DUE.same("the code " + code + " behind the length", map.digest(), 31 * (empty + 1) + code);
            map.clearBuffer();
        }
        long due = empty + 60;
        for (int index = 0; index < 60; index++) {
            map.append(33 + index);
            due = 31 * due + 33 + index;
        }
        DUE.same("60 codes, in order", map.digest(), due);
    }

    private static void whatIsNotInIt() {
        HillLines one = Maps.with(3, 3, 50);
        one.keep(0);
        one.set(3, 3, 60);
        HillLines other = Maps.with(0, 0, 99);
        other.set(0, 0, 0);
        other.keep(0);
        other.undo();
        other.undo();
        other.heap(3, 3, 1);
        other.set(3, 3, 60);
        DUE.same("neither the heights in the slots nor those in the states", one.digest(), other.digest());
        one.undo();
        other.undo();
        DUE.same("which are not the same", one.digest() == other.digest(), false);
    }

    private static long start(HillLines map) {
        long hash = 4373;
        for (int point = 0; point < 49; point++) {
            for (String name : new String[] {"heightOf", "dropOf", "sinkOf", "flowAt", "stepsToSink", "basinByFollowing",
                "basinByGoingUp", "spillByWays", "spillByLevels", "depthOf", "seenFrom"}) {
                hash = 31 * hash + (Integer) Calls.call(name, point / 7, point % 7).on(map);
            }
        }
        hash = 31 * (31 * hash + map.summit()) + map.bulk();
        for (int level : new int[] {10, 30, 50, 70}) {
            for (String name : Calls.OF_LEVEL) {
                hash = 31 * hash + (Integer) Calls.call(name, level).on(map);
            }
        }
        for (String name : new String[] {"sinks", "greatestBasin", "water", "ponds", "lookout", "savedStates"}) {
            hash = 31 * hash + (Integer) Calls.call(name).on(map);
        }
        return hash;
    }

    /** The digest of an object with empty slots and an empty buffer. */
    private static void check(String name, HillLines map, double meanDrop) {
        long hash = 31 * start(map) + Double.doubleToLongBits(meanDrop);
        DUE.same(name, map.digest(), 31L * 31 * 31 * hash);
    }

    /** Needles of 98, and one for the rest: drops of 49, 98, 196 and so on, and of 1 less and 1 more. */
    private static void meanDropAtPowersOfTwo() {
        int[] places = {0, 2, 4, 6, 14, 16, 18, 20, 28, 30, 32, 34, 42, 44, 46, 48};
        for (int mean = 1; mean <= 32; mean *= 2) {
            for (int other = -1; other <= 1; other++) {
                int rest = 49 * mean + other;
                HillLines map = new HillLines();
                for (int index = 0; index < places.length && rest > 0; index++) {
                    int height = Math.min(rest, index == 15 || mean == 1 ? 99 : 98);
                    map.set(places[index] / 7, places[index] % 7, height);
                    rest -= height;
                }
                if (rest == 0) {
                    check("a mean drop by " + mean + ", and " + other, map, (49 * mean + other) / 49.0);
                }
            }
        }
    }

    private static void meanDropOfEachSize() {
        check("none", new HillLines(), 0.0);
        for (int drop = 1; drop <= 99; drop++) {
            check("a drop of " + drop, Maps.with(6, 6, drop), drop / 49.0);
        }
        int[][] board = new int[7][7];
        int total = 0;
        for (int point = 0; point < 49; point += 2) {
            board[point / 7][point % 7] = 99 - point;
            total += 99 - point;
            check("drops of " + total, Maps.of(board), total / 49.0);
        }
    }

    private static void digestLeavesAll() {
        HillLines map = Maps.numbered();
        map.keep(0);
        Maps.write(map, "s00=");
        long before = map.digest();
        DUE.same("the same again", map.digest(), before);
        HillLines twin = Maps.numbered();
        twin.keep(0);
        Maps.write(twin, "s00=");
        DUE.same("nothing is changed", Calls.whole(map), Calls.whole(twin));
    }
}
