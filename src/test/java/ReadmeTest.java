import java.lang.reflect.Method;
import java.lang.reflect.Modifier;
import java.nio.file.Files;
import java.nio.file.Path;
import java.util.Arrays;
import java.util.List;
import java.util.regex.Matcher;
import java.util.regex.Pattern;
import java.util.stream.Stream;

/** README.md: its example answers what it says, and each call, order and test of the project is named as it is. */
final class ReadmeTest {
    private static final Due DUE = new Due("ReadmeTest");
    private static final Path README = Path.of("README.md");
    private static final Path TESTS = Path.of("src/test/java");
    private static final Pattern CALL = Pattern.compile("    map\\.(\\w+)\\(([-0-9, ]*)\\);(?: +// ([-0-9]+|\\w+).*)?");
    private static final Pattern TEXT = Pattern.compile("    for \\(char sign : \"(.*)\"\\.toCharArray\\(\\)\\) \\{");
    private static final Pattern ORDER = Pattern.compile("\\| `([shd~][^` (]*)` \\|.*");

    public static void main(String[] args) throws Exception {
        List<String> lines = Files.readAllLines(README);
        example(lines);
        orders(lines);
        names(String.join("\n", lines));
        DUE.end();
    }

    private static void example(List<String> lines) {
        HillLines map = new HillLines();
        int told = 0;
        for (String line : lines) {
            Matcher call = CALL.matcher(line);
            Matcher text = TEXT.matcher(line);
            if (text.matches()) {
                write(map, text.group(1));
            } else if (call.matches()) {
                Object answer = Calls.call(call.group(1), numbers(call.group(2))).on(map);
                DUE.same(line.trim(), told(answer), call.group(3) == null ? "nothing" : call.group(3));
                told++;
            }
        }
        DUE.same("the example has calls", told > 10, true);
    }

    private static String told(Object answer) {
        return answer instanceof Class<?> thrown ? thrown.getSimpleName() : String.valueOf(answer);
    }

    private static int[] numbers(String text) {
        return Arrays.stream(text.split(",")).map(String::trim).filter(one -> !one.isEmpty()).mapToInt(Integer::parseInt)
            .toArray();
    }

    private static void write(HillLines map, String text) {
        for (char sign : text.toCharArray()) {
            map.append(sign);
        }
    }

    private static void orders(List<String> lines) {
        int told = 0;
        for (String line : lines) {
            Matcher order = ORDER.matcher(line);
            if (order.matches()) {
                HillLines map = new HillLines();
                write(map, order.group(1));
                DUE.same(order.group(1) + ": draw", map.draw(), 1);
                told++;
            }
        }
        DUE.same("kinds of orders", told, 4);
    }

    private static void names(String readme) throws Exception {
        for (Method method : HillLines.class.getDeclaredMethods()) {
            if (Modifier.isPublic(method.getModifiers())) {
                String name = method.getName();
                Pattern named = Pattern.compile("`" + name + "\\(" + words(method.getParameterCount()) + "\\)`");
                DUE.same(name + " is named with its arguments", named.matcher(readme).find(), true);
            }
        }
        try (Stream<Path> files = Files.list(TESTS)) {
            for (String file : files.map(path -> path.getFileName().toString()).toList()) {
                if (file.endsWith("Test.java")) {
                    String test = file.substring(0, file.length() - ".java".length());
                    DUE.same(test + " is named", Pattern.compile("\\b" + test + "\\b").matcher(readme).find(), true);
                }
            }
        }
    }

    private static String words(int arguments) {
        return arguments == 0 ? "" : "\\w+" + ", \\w+".repeat(arguments - 1);
    }
}
