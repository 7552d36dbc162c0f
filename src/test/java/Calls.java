import java.lang.reflect.InvocationTargetException;
import java.lang.reflect.Method;
import java.util.ArrayList;
import java.util.Arrays;
import java.util.List;

/** Calls of the face by their names, for tests that go through all of them, and what they answer. */
final class Calls {
    static final List<String> OF_POINT = List.of("heightOf", "drainOf", "isSink", "dropOf", "sinkOf", "basinByFollowing",
        "basinByGoingUp", "flowAt", "stepsToSink", "spillByWays", "spillByLevels", "depthOf", "seenFrom");
    static final List<String> OF_LEVEL = List.of("pointsAbove", "bulkAbove", "crossingsByEdges", "crossingsByPieces",
        "linesByTracing", "linesByRegions", "closedLines", "longestLine", "hills", "hollows");
    static final List<String> OF_CUT = List.of("cutLength", "climb", "pass", "sees");
    static final List<String> OF_NOTHING = List.of("firstError", "savedStates", "summit", "bulk", "sinks", "greatestBasin",
        "water", "ponds", "lookout", "meanDrop", "digest");

    private Calls() {
    }

    /** One call: its name and its arguments. */
    record Call(String name, int... arguments) {
        /** The answer, or the class of the exception, or "nothing" from a void method. */
        Object on(Object map) {
            for (Method method : map.getClass().getMethods()) {
                if (method.getName().equals(name) && method.getParameterCount() == arguments.length) {
                    return answer(map, method);
                }
            }
            throw new IllegalStateException("the face has no " + this);
        }

        private Object answer(Object map, Method method) {
            try {
                Object answer = method.invoke(map, Arrays.stream(arguments).boxed().toArray());
                return answer == null ? "nothing" : answer;
            } catch (InvocationTargetException thrown) {
                return thrown.getCause().getClass();
            } catch (IllegalAccessException hidden) {
                throw new IllegalStateException(hidden);
            }
        }

        @Override
        public String toString() {
            return name + Arrays.toString(arguments).replace('[', '(').replace(']', ')');
        }
    }

    static Call call(String name, int... arguments) {
        return new Call(name, arguments);
    }

    /** Every call that reads and changes nothing, on arguments that are allowed. */
    static List<Call> readings() {
        List<Call> all = new ArrayList<>();
        OF_NOTHING.forEach(name -> all.add(call(name)));
        for (String name : OF_POINT) {
            all.add(call(name, 0, 0));
            all.add(call(name, 3, 3));
            all.add(call(name, 2, 5));
        }
        OF_LEVEL.forEach(name -> all.add(call(name, 30)));
        all.add(call("piecesIn", 2, 3, 30));
        OF_CUT.forEach(name -> all.add(call(name, 6, 1, 1, 3)));
        all.add(call("cutHeight", 6, 1, 1, 3, 2));
        return all;
    }

    /** All that a map holds, told by its answers; the map is of no use afterwards. */
    static String whole(Object map) {
        StringBuilder all = new StringBuilder();
        tell(all, map, call("firstError"));
        tell(all, map, call("savedStates"));
        tell(all, map, call("digest"));
        for (int state = 0; state < 7; state++) {
            tell(all, map, call("undo"));
            tellHeights(all, map);
        }
        for (int slot = 0; slot < 2; slot++) {
            tell(all, map, call("goBack", slot));
            tellHeights(all, map);
        }
        tell(all, map, call("draw"));
        tellHeights(all, map);
        tell(all, map, call("clearBuffer"));
        return all.toString();
    }

    private static void tell(StringBuilder all, Object map, Call call) {
        all.append(call).append(": ").append(call.on(map)).append('\n');
    }

    private static void tellHeights(StringBuilder all, Object map) {
        for (int point = 0; point < 49; point++) {
            all.append(call("heightOf", point / 7, point % 7).on(map)).append(' ');
        }
        all.append('\n');
    }
}
