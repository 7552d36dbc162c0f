/** Promises 7 to 10 at their boundaries, a test for each sentence that names one. */
final class TextsEdgesTest {
    private static final Due DUE = new Due("TextsEdgesTest");

    /** What orders can begin with, which characters can follow, and whether they may end there ("$"). */
    private static final String[][] BEGINNINGS = {
        {"", "shd~"}, {"s", "0123456"}, {"h", "0123456"}, {"d", "0123456"}, {"s0", "0123456"}, {"s6", "0123456"},
        {"h3", "0123456"}, {"d6", "0123456"}, {"s00", "="}, {"s66", "="}, {"s06", "="}, {"h00", "*"}, {"h66", "*"}, {"d60", "*"},
        {"s00=", "0123456789"}, {"h00*", "123456789"}, {"d00*", "123456789"},
        {"s00=0", ";$"}, {"s00=1", "0123456789;$"}, {"s00=9", "0123456789;$"}, {"s00=10", ";$"}, {"s00=99", ";$"}, {"s00=60", ";$"},
        {"h00*1", "0123456789;$"}, {"h00*5", "0123456789;$"}, {"h00*6", "0;$"}, {"h00*7", ";$"}, {"h00*9", ";$"}, {"h00*60", ";$"},
        {"d00*1", "0123456789;$"}, {"d00*5", "0123456789;$"}, {"d00*6", "0;$"}, {"d00*7", ";$"}, {"d00*9", ";$"}, {"d00*10", ";$"},
        {"h00*59", ";$"}, {"d00*59", ";$"}, {"d00*60", ";$"}, {"~", ";$"},
    };

    public static void main(String[] args) {
        appendEachCode();
        appendUntilFull();
        clearBufferOfEachLength();
        clearBufferLeavesNothing();
        firstErrorOfNothing();
        eachCharacterBehindEachBeginning();
        endsOfOrders();
        firstErrorAtEachIndex();
        firstErrorIsTheFirst();
        firstErrorWithFullBuffer();
        leastAndGreatestNumbers();
        drawLeastAndMostOrders();
        drawAllOrNothing();
        drawIsHeldTo99And0();
        drawIsUndoneAsOneCall();
        drawWithSixSavedStates();
        DUE.end();
    }

    private static HillLines written(String text) {
        HillLines map = new HillLines();
        Maps.write(map, text);
        return map;
    }

    // promise 7

    private static void appendEachCode() {
        HillLines map = new HillLines();
        for (int code = 0; code <= 300; code++) {
            int sign = code;
            if (code < 33 || code > 126) {
                DUE.badArgument("append(" + code + ")", () -> map.append(sign));
                DUE.same("the buffer has no more for it", map.append('~'), 1);
            } else {
                DUE.same("append(" + code + ")", map.append(sign), 1);
                DUE.same("append(" + code + ") and one more", map.append('~'), 2);
            }
            map.clearBuffer();
        }
        for (int code : new int[] {-1, -33, 33 + 65536, 33 - 65536, Integer.MAX_VALUE, Integer.MIN_VALUE}) {
            DUE.badArgument("append(" + code + ")", () -> map.append(code));
        }
        DUE.same("none is there", map.clearBuffer(), 0);
    }

    private static void appendUntilFull() {
        HillLines map = new HillLines();
        for (int length = 1; length <= 60; length++) {
            DUE.same("append the character " + length, map.append(length % 2 == 1 ? '~' : ';'), length);
        }
        long full = map.digest();
        for (int code : new int[] {33, 126, '~'}) {
            DUE.badState("append(" + code + ") to 60 characters", () -> map.append(code));
        }
        for (int code : new int[] {32, 127, -1}) {
            DUE.badArgument("append(" + code + ") to 60 characters", () -> map.append(code));
        }
        DUE.same("the 60 characters stay", map.digest(), full);
        DUE.same("they are 60", map.clearBuffer(), 60);
        DUE.same("then there is room", map.append('~'), 1);
        DUE.same("for one order", map.draw(), 1);
        DUE.same("and again", map.append('~'), 1);
    }

    // promise 8

    private static void clearBufferOfEachLength() {
        for (int length = 0; length <= 60; length++) {
            HillLines map = written("!".repeat(length));
            DUE.same("clearBuffer of " + length, map.clearBuffer(), length);
            DUE.same("clearBuffer again", map.clearBuffer(), 0);
            DUE.same("clearBuffer of " + length + " saves nothing", map.savedStates(), 0);
        }
    }

    private static void clearBufferLeavesNothing() {
        HillLines map = Maps.with(3, 3, 40);
        map.keep(1);
        map.set(4, 4, 5);
        long before = map.digest();
        Maps.write(map, "s00=99;h66*60;!!!");
        map.clearBuffer();
        DUE.same("clearBuffer clears the buffer alone", map.digest(), before);
        DUE.same("no character is left", map.firstError(), 0);
        DUE.badArgument("no order is left", map::draw);
        Maps.write(map, "s11=1");
        DUE.same("the error is gone", map.firstError(), 5);
        DUE.same("the orders behind it alone", map.draw(), 1);
        DUE.same("the heights", map.bulk(), 46);
    }

    // promise 9

    private static void firstErrorOfNothing() {
        HillLines map = new HillLines();
        DUE.same("an empty buffer has no error", map.firstError(), 0);
        DUE.same("firstError leaves it empty", map.clearBuffer(), 0);
        DUE.same("firstError saves nothing", map.savedStates(), 0);
    }

    private static void eachCharacterBehindEachBeginning() {
        for (String[] row : BEGINNINGS) {
            for (String ahead : new String[] {"", "~;", "s11=22;", "d11*5;", "h22*6;s33=0;"}) {
                String begun = ahead + row[0];
                HillLines map = new HillLines();
                for (char sign = 33; sign <= 126; sign++) {
                    Maps.write(map, begun + sign);
                    boolean fits = row[1].indexOf(sign) >= 0 && sign != '$';
                    DUE.same(begun + sign + ": firstError", map.firstError(), begun.length() + (fits ? 1 : 0));
                    map.clearBuffer();
                }
            }
        }
    }

    private static void endsOfOrders() {
        for (String[] row : BEGINNINGS) {
            for (String ahead : new String[] {"", "~;", "s11=22;"}) {
                HillLines map = written(ahead + row[0]);
                int length = ahead.length() + row[0].length();
                DUE.same(ahead + row[0] + ": no error", map.firstError(), length);
                if (row[1].endsWith("$")) {
                    DUE.same(ahead + row[0] + ": draw", map.draw(), ahead.isEmpty() ? 1 : 2);
                    DUE.same(ahead + row[0] + ": cleared", map.clearBuffer(), 0);
                } else {
                    DUE.badArgument(ahead + row[0] + ": draw", map::draw);
                    DUE.same(ahead + row[0] + ": nothing saved", map.savedStates(), 0);
                    DUE.same(ahead + row[0] + ": the buffer stays", map.clearBuffer(), length);
                }
            }
        }
    }

    private static void firstErrorAtEachIndex() {
        String good = "s00=10;h11*60;d22*9;~;s33=0;~;h44*12;d55*1;s66=99;~;~;~;~;~~";
        for (int index = 0; index < 60; index++) {
            String bad = good.substring(0, index) + "!" + "~".repeat(59 - index);
            HillLines map = written(bad);
            DUE.same(bad + ": firstError", map.firstError(), index);
            DUE.same(bad + ": firstError again", map.firstError(), index);
            DUE.badArgument(bad + ": draw", map::draw);
            DUE.same(bad + ": heights", map.bulk(), 0);
            DUE.same(bad + ": the buffer stays", map.clearBuffer(), 60);
        }
    }

    private static void firstErrorIsTheFirst() {
        HillLines map = written("s00=100");
        DUE.same("an error at the end", map.firstError(), 6);
        Maps.write(map, ";~");
        DUE.same("what comes behind does not mend it", map.firstError(), 6);
        Maps.write(map, "!!");
        DUE.same("later errors do not count", map.firstError(), 6);
        DUE.badArgument("draw with an error", map::draw);
        map.clearBuffer();
        Maps.write(map, "s00=10");
        DUE.same("without it there is none", map.firstError(), 6);
        DUE.same("draw without it", map.draw(), 1);
    }

    /** Of 60 characters, the last one an error, half an order, and a whole one. */
    private static void firstErrorWithFullBuffer() {
        String begun = "~;".repeat(27);
        HillLines bad = written(begun + "s00=1!");
        DUE.same("the last one of 60 is an error", bad.firstError(), 59);
        DUE.badArgument("draw with it", bad::draw);
        HillLines half = written(begun + "s00=1;");
        DUE.same("60 characters that orders of any length begin with", half.firstError(), 60);
        DUE.badArgument("draw of half an order", half::draw);
        DUE.same("they stay", half.clearBuffer(), 60);
        HillLines whole = written(begun + "s00=12");
        DUE.same("60 characters without an error", whole.firstError(), 60);
        DUE.same("draw of 60 characters", whole.draw(), 28);
        DUE.same("the last order of 60 characters", whole.heightOf(0, 0), 12);
        HillLines letter = written("~;".repeat(29) + "~;");
        DUE.same("60 characters, the last one a sign between", letter.firstError(), 60);
        DUE.badArgument("draw without an order behind it", letter::draw);
    }

    // promise 10

    private static void leastAndGreatestNumbers() {
        String[] good = {"s00=0", "s66=99", "s06=1", "s60=98", "h00*1", "h66*60", "h06*59", "d60*1", "d66*60", "d00*9", "s00=9", "s00=10"};
        for (String text : good) {
            DUE.same(text + ": no error", written(text).firstError(), text.length());
            DUE.same(text + ": draw", written(text).draw(), 1);
        }
        String[][] bad = {{"s00=100", "6"}, {"s00=00", "5"}, {"s00=09", "5"}, {"h00*0", "4"}, {"h00*61", "5"}, {"h00*01", "4"},
            {"d00*0", "4"}, {"d00*61", "5"}, {"d00*70", "5"}, {"d00*600", "6"}, {"s07=1", "2"}, {"s70=1", "1"}, {"h77*1", "1"},
            {"d07*1", "2"}, {"s00=-1", "4"}, {"h00*-1", "4"}, {"s00=+1", "4"}};
        for (String[] row : bad) {
            DUE.same(row[0] + ": firstError", written(row[0]).firstError(), Integer.parseInt(row[1]));
            DUE.badArgument(row[0] + ": draw", written(row[0])::draw);
        }
        for (int point = 0; point < 49; point++) {
            HillLines map = written("s" + point / 7 + point % 7 + "=" + (point + 50));
            map.draw();
            DUE.same("the order for the point " + point, map.heightOf(point / 7, point % 7), point + 50);
            DUE.same("the order for the point " + point + " alone", map.bulk(), point + 50);
        }
        DUE.same("s66=99 is drawn", drawn("s66=99"), 99);
        DUE.same("s66=0 is drawn", drawn("s66=5;s66=0"), 0);
        DUE.same("h33*60 is drawn", drawn("h33*60"), 380);
        DUE.same("h33*1 is drawn", drawn("h33*1"), 1);
        DUE.same("d33*60 is drawn", drawn("h33*60;d33*60"), 0);
        DUE.same("d33*1 is drawn", drawn("h33*60;d33*1"), 379);
    }

    private static int drawn(String text) {
        HillLines map = written(text);
        map.draw();
        return map.bulk();
    }

    private static void drawLeastAndMostOrders() {
        DUE.badArgument("no order", written("")::draw);
        DUE.same("one order", written("~").draw(), 1);
        for (int orders = 2; orders <= 30; orders++) {
            DUE.same("orders " + orders, written("~;".repeat(orders - 1) + "~").draw(), orders);
            DUE.badArgument("orders " + orders + ", the last one missing", written("~;".repeat(orders))::draw);
        }
        DUE.same("orders of one kind each", written("s00=9;h11*9;d22*9;~").draw(), 4);
    }

    private static void drawAllOrNothing() {
        String[] ends = {"", "s", "s0", "s00", "s00=", "h00*", "d00*0", "!", "~~", ";"};
        for (String end : ends) {
            HillLines map = Maps.with(1, 1, 30);
            map.keep(0);
            HillLines twin = Maps.with(1, 1, 30);
            twin.keep(0);
            String text = "s00=50;h33*60;~;d11*5;" + end;
            Maps.write(map, text);
            Maps.write(twin, text);
            DUE.badArgument(text + ": draw", map::draw);
            DUE.badArgument(text + ": draw again", map::draw);
            DUE.same(text + ": all stays", Calls.whole(map), Calls.whole(twin));
        }
    }

    private static void drawIsHeldTo99And0() {
        HillLines map = Maps.flat(60);
        Maps.write(map, "h33*60;s00=99;h00*1");
        map.draw();
        DUE.same("a hill has 99 at the most", map.heightOf(3, 3), 99);
        DUE.same("a step away", map.heightOf(3, 4), 99);
        DUE.same("two steps away", map.heightOf(4, 4), 80);
        DUE.same("1 on 99", map.heightOf(0, 0), 99);
        Maps.write(map, "d33*60;d33*60;s66=0;d66*1");
        map.draw();
        DUE.same("a hole has 0 at the least", map.heightOf(3, 3), 0);
        DUE.same("a step away of the hole", map.heightOf(3, 4), 19);
        DUE.same("1 from 0", map.heightOf(6, 6), 0);
        HillLines back = Maps.flat(99);
        Maps.write(back, "h33*60;d33*60");
        back.draw();
        DUE.same("each order is held by itself", back.heightOf(3, 3), 39);
    }

    private static void drawIsUndoneAsOneCall() {
        HillLines map = Maps.with(0, 0, 7);
        Maps.write(map, "s00=8;s01=9;h33*60;~;d33*1");
        DUE.same("five orders", map.draw(), 5);
        DUE.same("one state is saved for them", map.savedStates(), 2);
        DUE.same("the buffer is cleared", map.firstError(), 0);
        map.append('!');
        map.undo();
        DUE.same("all five are undone", Maps.heights(map), Maps.heights(Maps.with(0, 0, 7)));
        DUE.same("the buffer is not in the state", map.clearBuffer(), 1);
        Maps.write(map, "s00=7");
        DUE.same("an order that changes nothing", map.draw(), 1);
        DUE.same("it is saved", map.savedStates(), 2);
    }

    private static void drawWithSixSavedStates() {
        HillLines map = new HillLines();
        for (int height = 1; height <= 6; height++) {
            map.set(0, 0, height);
        }
        map.append('!');
        DUE.badArgument("draw of an error", map::draw);
        map.clearBuffer();
        DUE.badArgument("draw of nothing", map::draw);
        DUE.same("six states", map.savedStates(), 6);
        Maps.write(map, "s00=50;s00=60");
        map.draw();
        DUE.same("six states still", map.savedStates(), 6);
        for (int height = 6; height >= 1; height--) {
            map.undo();
            DUE.same("undone to " + height, map.heightOf(0, 0), height);
        }
        DUE.badState("the oldest state was dropped", map::undo);
    }
}
