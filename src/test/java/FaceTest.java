import java.lang.reflect.Constructor;
import java.lang.reflect.Field;
import java.lang.reflect.Method;
import java.lang.reflect.Modifier;
import java.util.Set;
import java.util.TreeSet;

/** The face: its methods, word by word, and nothing else that can be seen from outside. */
final class FaceTest {
    private static final Due DUE = new Due("FaceTest");
    private static final String P = "int,int";
    private static final String C = "int,int,int,int";
    private static final String I = " IndexOutOfBoundsException";
    private static final String A = " IllegalArgumentException";
    private static final String S = " IllegalStateException";
    private static final String[] FACE = {
        "int set(int,int,int)" + I + A, "int heap(int,int,int)" + I + A, "int smooth()", "int wash(int)" + A, "int turnMap()",
        "int append(int)" + A + S, "int clearBuffer()", "int firstError()", "int draw()" + A, "void keep(int)" + A,
        "void goBack(int)" + A + S, "void undo()" + S, "int savedStates()", "int heightOf(" + P + ")" + I, "int summit()",
        "int bulk()", "int pointsAbove(int)" + A, "int bulkAbove(int)" + A, "int crossingsByEdges(int)" + A,
        "int crossingsByPieces(int)" + A, "int piecesIn(int,int,int)" + I + A, "int linesByTracing(int)" + A,
        "int linesByRegions(int)" + A, "int closedLines(int)" + A, "int longestLine(int)" + A, "int hills(int)" + A,
        "int hollows(int)" + A, "int drainOf(" + P + ")" + I + S, "boolean isSink(" + P + ")" + I, "int dropOf(" + P + ")" + I,
        "int sinkOf(" + P + ")" + I, "int basinByFollowing(" + P + ")" + I, "int basinByGoingUp(" + P + ")" + I,
        "int flowAt(" + P + ")" + I, "int stepsToSink(" + P + ")" + I, "int sinks()", "int greatestBasin()",
        "int spillByWays(" + P + ")" + I, "int spillByLevels(" + P + ")" + I, "int depthOf(" + P + ")" + I, "int water()",
        "int ponds()", "int cutLength(" + C + ")" + I, "int cutHeight(" + C + ",int)" + I, "int climb(" + C + ")" + I,
        "int pass(" + C + ")" + I, "boolean sees(" + C + ")" + I, "int seenFrom(" + P + ")" + I, "int lookout()",
        "double meanDrop()", "long digest()"};

    public static void main(String[] args) {
        Set<String> seen = new TreeSet<>();
        Set<String> names = new TreeSet<>();
        for (Method method : HillLines.class.getDeclaredMethods()) {
            if (!method.isSynthetic() && !Modifier.isPrivate(method.getModifiers())) {
                seen.add(told(method));
                names.add(method.getName());
                DUE.same(told(method) + ": modifiers", Modifier.toString(method.getModifiers()), "public");
            }
        }
        DUE.same("the methods", seen, new TreeSet<>(Set.of(FACE)));
        hidden(names);
        constructor();
        DUE.end();
    }

    private static String told(Method method) {
        StringBuilder told = new StringBuilder(method.getReturnType().getName()).append(' ').append(method.getName()).append('(');
        for (Class<?> type : method.getParameterTypes()) {
            told.append(told.charAt(told.length() - 1) == '(' ? "" : ",").append(type.getName());
        }
        told.append(')');
        for (Class<?> type : method.getExceptionTypes()) {
            told.append(' ').append(type.getSimpleName());
        }
        return told.toString();
    }

    private static void hidden(Set<String> names) {
        for (Method method : HillLines.class.getDeclaredMethods()) {
            if (Modifier.isPrivate(method.getModifiers())) {
                DUE.same("a private " + method.getName(), names.contains(method.getName()), false);
            }
        }
        for (Field field : HillLines.class.getDeclaredFields()) {
            int flags = field.getModifiers();
            DUE.same("the field " + field.getName() + " is private", Modifier.isPrivate(flags) || field.isSynthetic(), true);
            DUE.same("the field " + field.getName() + " is final, if it is static", Modifier.isFinal(flags) || !Modifier.isStatic(flags),
                true);
        }
        for (Class<?> inside : HillLines.class.getDeclaredClasses()) {
            int flags = inside.getModifiers();
            DUE.same(inside.getName() + " is private or package-visible", Modifier.isPublic(flags) || Modifier.isProtected(flags), false);
        }
    }

    private static void constructor() {
        Constructor<?>[] all = HillLines.class.getDeclaredConstructors();
        DUE.same("constructors", all.length, 1);
        DUE.same("the constructor is public", Modifier.isPublic(all[0].getModifiers()), true);
        DUE.same("the constructor's parameters", all[0].getParameterCount(), 0);
        DUE.same("the class", Modifier.toString(HillLines.class.getModifiers()), "public final");
        DUE.same("above the class", HillLines.class.getSuperclass(), Object.class);
        DUE.same("its package", HillLines.class.getPackageName(), "");
    }
}
