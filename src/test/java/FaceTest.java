import java.lang.reflect.Constructor;
import java.lang.reflect.Executable;
import java.lang.reflect.Field;
import java.lang.reflect.Method;
import java.lang.reflect.Modifier;
import java.util.Arrays;
import java.util.Set;
import java.util.StringJoiner;
import java.util.TreeSet;

/** The class shows the face of the document, and nothing else that is not private. */
public final class FaceTest {
    private static final Set<String> DUE = new TreeSet<>(Arrays.asList(
        "class public final",
        "field public static final int BAD_BLOCK",
        "field public static final int BAD_VARIABLE",
        "field public static final int BAD_OP",
        "field public static final int FULL",
        "field public static final int STOPPED",
        "field public static final int CUT_OFF",
        "constructor public ()",
        "method public int assign(int, int, int, int)",
        "method public int empty(int)",
        "method public int stop(int)",
        "method public int go(int, int)",
        "method public int branch(int, int, int, int)",
        "method public int set(int, int)",
        "method public int run()",
        "method public int get(int)",
        "method public int outputs()",
        "method public int output(int)",
        "method public int visits(int)",
        "method public int last()",
        "method public int reachable()"));

    public static void main(String[] args) {
        Set<String> found = face();
        Set<String> missing = new TreeSet<>(DUE);
        missing.removeAll(found);
        Set<String> extra = new TreeSet<>(found);
        extra.removeAll(DUE);
        for (String member : missing) {
            System.out.println("missing: " + member);
        }
        for (String member : extra) {
            System.out.println("not in the document: " + member);
        }
        boolean right = missing.isEmpty() && extra.isEmpty();
        System.out.println(right ? "the face is as due" : "the face is not as due");
        if (!right) {
            System.exit(1);
        }
    }

    private static Set<String> face() {
        Set<String> found = new TreeSet<>();
        Class<?> type = RelooperRun.class;
        found.add("class " + Modifier.toString(type.getModifiers()));
        for (Field field : type.getDeclaredFields()) {
            if (!Modifier.isPrivate(field.getModifiers())) {
                found.add("field " + Modifier.toString(field.getModifiers()) + " " + field.getType() + " "
                    + field.getName());
            }
        }
        for (Constructor<?> made : type.getDeclaredConstructors()) {
            found.add("constructor " + Modifier.toString(made.getModifiers()) + " "
                + parameters(made));
        }
        for (Method method : type.getDeclaredMethods()) {
            if (!Modifier.isPrivate(method.getModifiers())) {
                found.add("method " + Modifier.toString(method.getModifiers()) + " " + method.getReturnType() + " "
                    + method.getName() + parameters(method));
            }
        }
        return found;
    }

    private static String parameters(Executable called) {
        StringJoiner types = new StringJoiner(", ", "(", ")");
        for (Class<?> type : called.getParameterTypes()) {
            types.add(type.toString());
        }
        return types.toString();
    }
}
