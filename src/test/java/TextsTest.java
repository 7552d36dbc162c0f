/** Promises 7 to 10: append, clearBuffer, firstError, draw. */
final class TextsTest {
    private static final Due DUE = new Due("TextsTest");

    /** Texts that are orders, each with how many and with the bulk that they leave on a flat map. */
    private static final Object[][] ORDERS = {
        {"~", 1, 0}, {"~;~", 2, 0}, {"s00=0", 1, 0}, {"s66=9", 1, 9}, {"s06=10", 1, 10}, {"s60=99", 1, 99},
        {"h33*1", 1, 1}, {"h33*9", 1, 57}, {"h33*60", 1, 380}, {"h33*59", 1, 367}, {"h33*10", 1, 50},
        {"d33*60", 1, 0}, {"s33=5;d33*2", 2, 3}, {"d33*2;s33=5", 2, 5}, {"s33=99;~", 2, 95},
        {"~;s33=99", 2, 99}, {"h33*60;d33*60", 2, 0}, {"s00=1;s00=2;s00=3", 3, 3}, {"s00=99;h00*60;d00*60", 3, 39},
    };

    /** Texts that are none, each with the index of the first error. */
    private static final Object[][] NO_ORDERS = {
        {"", 0}, {"s", 1}, {"s0", 2}, {"s00", 3}, {"s00=", 4}, {"h", 1}, {"d66", 3}, {"d66*", 4}, {"~;", 2}, {"s00=5;", 6},
        {"s00=10;h", 8}, {"x", 0}, {";", 0}, {"S00=1", 0}, {"0", 0}, {"=", 0}, {"s7", 1}, {"s07", 2}, {"s77=1", 1}, {"s=", 1},
        {"s0=", 2}, {"s00*1", 3}, {"h00=1", 3}, {"d00=1", 3}, {"s000", 3}, {"s00=00", 5}, {"s00=01", 5}, {"s00=100", 6},
        {"s00=990", 6}, {"s00=;", 4}, {"s00=-", 4}, {"h00*0", 4}, {"d00*0", 4}, {"h00*61", 5}, {"h00*69", 5}, {"h00*70", 5},
        {"h00*99", 5}, {"h00*600", 6}, {"h00*100", 6}, {"d00*61", 5}, {"~~", 1}, {"~0", 1}, {"~;;", 2}, {"s00=1;;", 6},
        {"s00=1~", 5}, {"s00=1s", 5}, {"s00=1 ".replace(' ', '!'), 5}, {"h00*5;x", 6}, {"s/0=1", 1}, {"s0/=1", 2}, {"s00=:", 4},
        {"s00=/", 4}, {"s00=1:", 5}, {"s00=1/", 5}, {"h00*/", 4}, {"h00*:", 4}, {"h00*1/", 5}, {"h00*1:", 5}, {"s:0", 1},
        {"s0:", 2}, {"s00=0;s01=05", 11}, {"h00*6;h01*61", 11}, {"s00=12;h00*12;d00*12;~;q", 23},
    };

    public static void main(String[] args) {
        append();
        clearBuffer();
        orders();
        noOrders();
        fullBuffer();
        drawIsOneCall();
        drawWorksInOrder();
        DUE.end();
    }

    private static void append() {
        HillLines map = new HillLines();
        DUE.same("append(33)", map.append(33), 1);
        DUE.same("append(126)", map.append(126), 2);
        for (int code : new int[] {32, 127, 0, -1, 65536 + 65, Integer.MAX_VALUE, Integer.MIN_VALUE}) {
            DUE.badArgument("append(" + code + ")", () -> map.append(code));
        }
        for (int length = 3; length <= 60; length++) {
            DUE.same("append the character " + length, map.append(65), length);
        }
        DUE.badState("append to a full buffer", () -> map.append(65));
        DUE.badArgument("append(32) to a full buffer", () -> map.append(32));
        DUE.same("append is not undoable", map.savedStates(), 0);
        DUE.same("the buffer is as it was", map.clearBuffer(), 60);
        DUE.same("append again", map.append(65), 1);
    }

    private static void clearBuffer() {
        HillLines map = new HillLines();
        Maps.write(map, "s00");
        DUE.same("clearBuffer", map.clearBuffer(), 3);
        DUE.same("clearBuffer of nothing", map.clearBuffer(), 0);
        DUE.same("firstError of nothing", map.firstError(), 0);
        DUE.same("clearBuffer is not undoable", map.savedStates(), 0);
        Maps.write(map, "~");
        DUE.same("what was cleared is gone", map.draw(), 1);
    }

    private static void orders() {
        for (Object[] row : ORDERS) {
            HillLines map = new HillLines();
            String text = (String) row[0];
            Maps.write(map, text);
            DUE.same(text + ": firstError", map.firstError(), text.length());
            DUE.same(text + ": firstError again", map.firstError(), text.length());
            DUE.same(text + ": draw", map.draw(), row[1]);
            DUE.same(text + ": bulk", map.bulk(), row[2]);
            DUE.same(text + ": savedStates", map.savedStates(), 1);
            DUE.same(text + ": the buffer is cleared", map.clearBuffer(), 0);
            map.undo();
            DUE.same(text + ": undone", map.bulk(), 0);
        }
    }

    private static void noOrders() {
        for (Object[] row : NO_ORDERS) {
            HillLines map = new HillLines();
            String text = (String) row[0];
            Maps.write(map, text);
            DUE.same(text + ": firstError", map.firstError(), row[1]);
            DUE.badArgument(text + ": draw", map::draw);
            DUE.same(text + ": bulk", map.bulk(), 0);
            DUE.same(text + ": savedStates", map.savedStates(), 0);
            DUE.same(text + ": the buffer stays", map.clearBuffer(), text.length());
        }
    }

    private static void fullBuffer() {
        String ten = "s00=1;~;~;";
        HillLines cut = new HillLines();
        Maps.write(cut, ten.repeat(6));
        DUE.same("orders of any length begin so", cut.firstError(), 60);
        DUE.badArgument("but these are none", cut::draw);
        HillLines whole = new HillLines();
        Maps.write(whole, ten.repeat(5) + "s66=12;~;~");
        DUE.same("60 characters", whole.firstError(), 60);
        DUE.same("60 characters: draw", whole.draw(), 18);
        HillLines most = new HillLines();
        Maps.write(most, "~;".repeat(29) + "~");
        DUE.same("30 orders", most.draw(), 30);
    }

    private static void drawIsOneCall() {
        HillLines map = Maps.with(0, 0, 7);
        map.keep(1);
        Maps.write(map, "s00=8;s11=9;h33*30");
        DUE.same("draw", map.draw(), 3);
        DUE.same("draw is saved once", map.savedStates(), 2);
        map.undo();
        DUE.same("draw is undone as one call", map.bulk(), 7);
        DUE.same("undo leaves the buffer", map.clearBuffer(), 0);
        Maps.write(map, "s00=1;s01=2;s02=");
        DUE.badArgument("all or nothing", map::draw);
        DUE.same("nothing", map.bulk(), 7);
        DUE.same("the slot is as it was", map.savedStates(), 1);
    }

    private static void drawWorksInOrder() {
        String[] texts = {"h33*60;~;s00=99;d00*45;~;h66*7", "d33*5;h33*5", "s16=99;~;~;~", "h01*3;h10*4;h25*59;d52*31;~"};
        for (String text : texts) {
            HillLines drawn = Maps.flat(4);
            HillLines called = Maps.flat(4);
            Maps.write(drawn, text);
            drawn.draw();
            for (String order : text.split(";")) {
                call(called, order);
            }
            DUE.same(text, Maps.heights(drawn), Maps.heights(called));
        }
    }

    private static void call(HillLines map, String order) {
        if (order.equals("~")) {
            map.smooth();
            return;
        }
        int row = order.charAt(1) - '0';
        int column = order.charAt(2) - '0';
        int number = Integer.parseInt(order.substring(4));
        if (order.charAt(0) == 's') {
            map.set(row, column, number);
        } else {
            map.heap(row, column, order.charAt(0) == 'h' ? number : -number);
        }
    }
}
