import java.lang.reflect.InvocationTargetException;
import java.lang.reflect.Method;
import java.lang.reflect.Modifier;
import java.util.ArrayList;
import java.util.Arrays;
import java.util.Comparator;
import java.util.List;
import java.util.Random;

/** All promises: runs of calls that a fixed seed makes, each answer held against the model's. */
final class RandomRunsTest {
    private static final Due DUE = new Due("RandomRunsTest");
    private static final int RUNS = 400;
    private static final int CALLS = 300;
    private static final String[] ORDERS = {"s", "h", "d", "0", "3", "6", "7", "=", "*", "1", "9", ";", "~", "s33=", "h45*6", "d20*",
        "s00=1", "h60*59;", ";~", "d06*1", "!"};
    private static final int[][] PALETTES = {{0, 1}, {97, 98, 99}, {0, 50, 99}, {10, 11, 30, 31, 50, 51, 70, 71}, {0, 99}, {5},
        {20, 40, 60, 80}, {1, 2, 3, 4, 5, 6}};

    private static final List<String> OF_LEVEL = List.of("pointsAbove", "bulkAbove", "crossingsByEdges", "crossingsByPieces",
        "linesByTracing", "linesByRegions", "closedLines", "longestLine", "hills", "hollows");

    public static void main(String[] args) {
        List<Method> methods = face();
        for (int run = 0; run < RUNS; run++) {
            new RandomRunsTest(run).go(methods);
        }
        DUE.end();
    }

    private final Random random;
    private final HillLines program = new HillLines();
    private final Model model = new Model();
    private final StringBuilder said = new StringBuilder();
    private boolean wrong = false;

    private RandomRunsTest(int seed) {
        random = new Random(seed);
    }

    private static List<Method> face() {
        List<Method> all = new ArrayList<>();
        for (Method method : HillLines.class.getDeclaredMethods()) {
            if (Modifier.isPublic(method.getModifiers())) {
                all.add(method);
            }
        }
        all.sort(Comparator.comparing(Method::getName));
        return all;
    }

    private void go(List<Method> methods) {
        int calls = 0;
        if (random.nextInt(4) != 0) {
            calls = fill(methods);
        }
        while (calls < CALLS && !wrong) {
            int kind = random.nextInt(20);
            if (kind == 0) {
                write(methods, ORDERS[random.nextInt(ORDERS.length)]);
            } else if (kind == 1) {
                write(methods, "h" + random.nextInt(7) + random.nextInt(7) + "*" + (1 + random.nextInt(60)));
                call(methods, "draw");
            } else {
                Method method = methods.get(random.nextInt(methods.size()));
                call(method, arguments(method));
            }
            calls++;
        }
        call(methods, "digest");
    }

    private int fill(List<Method> methods) {
        int[] palette = random.nextBoolean() ? PALETTES[random.nextInt(PALETTES.length)] : null;
        for (int point = 0; point < 49; point++) {
            int height = palette == null ? random.nextInt(100) : palette[random.nextInt(palette.length)];
            call(methods, "set", point / 7, point % 7, height);
        }
        return 49;
    }

    private void write(List<Method> methods, String text) {
        for (char sign : text.toCharArray()) {
            call(methods, "append", (int) sign);
        }
    }

    private Object[] arguments(Method method) {
        Object[] all = new Object[method.getParameterCount()];
        boolean wild = random.nextInt(8) == 0;
        for (int index = 0; index < all.length; index++) {
            all[index] = wild && random.nextBoolean() ? wildNumber() : plainNumber(method.getName(), index);
        }
        return all;
    }

    private int wildNumber() {
        int[] wild = {-1, 7, 6, 5, 0, 100, 99, 98, -60, -61, 60, 61, 50, 51, 33, 32, 126, 127, 2, Integer.MAX_VALUE, Integer.MIN_VALUE};
        return wild[random.nextInt(wild.length)];
    }

    private int plainNumber(String name, int index) {
        switch (name) {
            case "wash":
                return 1 + random.nextInt(random.nextBoolean() ? 3 : 50);
            case "append":
                return 33 + random.nextInt(94);
            case "keep", "goBack":
                return random.nextInt(2);
            case "piecesIn":
                return index == 2 ? random.nextInt(99) : random.nextInt(6);
            case "set":
                return index == 2 ? random.nextInt(100) : random.nextInt(7);
            case "heap":
                return index == 2 ? random.nextInt(121) - 60 : random.nextInt(7);
            default:
                return OF_LEVEL.contains(name) ? random.nextInt(99) : random.nextInt(7);
        }
    }

    private void call(List<Method> methods, String name, Object... arguments) {
        for (Method method : methods) {
            if (method.getName().equals(name)) {
                call(method, arguments);
            }
        }
    }

    private void call(Method method, Object... arguments) {
        if (wrong) {
            return;
        }
        String call = method.getName() + Arrays.toString(arguments);
        said.append(call).append(' ');
        Object got = outcome(program, method.getName(), method.getParameterTypes(), arguments);
        Object want = outcome(model, method.getName(), method.getParameterTypes(), arguments);
        wrong = !want.equals(got);
        DUE.same(wrong ? said.toString() : call, got, want);
    }

    private static Object outcome(Object of, String name, Class<?>[] types, Object[] arguments) {
        try {
            Method method = of.getClass().getMethod(name, types);
            method.setAccessible(true);
            Object answer = method.invoke(of, arguments);
            return answer == null ? "nothing" : answer;
        } catch (InvocationTargetException thrown) {
            return thrown.getCause().getClass();
        } catch (ReflectiveOperationException missing) {
            throw new IllegalStateException(missing);
        }
    }
}
