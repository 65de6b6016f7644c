import java.lang.reflect.Constructor;
import java.lang.reflect.Field;
import java.lang.reflect.Method;
import java.lang.reflect.Modifier;
import java.util.Arrays;
import java.util.Set;
import java.util.TreeSet;

/** The class shows the document's public face and nothing beside it. */
public final class FaceTest {
    private static final Set<String> FACE = new TreeSet<>(Arrays.asList(
        "public static final int BAD_ARG",
        "public static final int FULL",
        "public static final int NONE",
        "public static final int NO_SUM",
        "public LazyClauseSolver()",
        "public int factor(int, int)",
        "public int linear(int)",
        "public int differ(int)",
        "public int either(int, int, int, int)",
        "public int constraints()",
        "public int force(int, int)",
        "public void clear()",
        "public boolean solvable()",
        "public int value(int)",
        "public int firstWith(int, int)",
        "public int values(int)",
        "public int after(int)",
        "public int smallest()",
        "public int blame()",
        "public boolean follows(int)"));

    private static final Check check = new Check("FaceTest");

    public static void main(String[] args) {
        Class<?> type = LazyClauseSolver.class;
        check.due("public final", type.getModifiers(), Modifier.PUBLIC | Modifier.FINAL);
        check.due("nested classes", type.getDeclaredClasses().length, 0);
        Set<String> shown = shown(type);
        for (String member : FACE) {
            check.due(member + " is there", shown.contains(member), true);
        }
        for (String member : shown) {
            check.due(member + " is of the document", FACE.contains(member), true);
        }
        privateNamesAreTheirOwn(type);
        check.end();
    }

    private static Set<String> shown(Class<?> type) {
        Set<String> shown = new TreeSet<>();
        for (Field field : type.getDeclaredFields()) {
            if (!Modifier.isPrivate(field.getModifiers())) {
                shown.add(plain(field.toString()));
            }
        }
        for (Constructor<?> made : type.getDeclaredConstructors()) {
            shown.add(plain(made.toString()));
        }
        for (Method method : type.getDeclaredMethods()) {
            if (!Modifier.isPrivate(method.getModifiers())) {
                shown.add(plain(method.toString()));
            }
        }
        return shown;
    }

    private static String plain(String member) {
        return member.replace("LazyClauseSolver.", "").replace(",", ", ");
    }

    private static void privateNamesAreTheirOwn(Class<?> type) {
        Set<String> names = new TreeSet<>();
        for (Method method : type.getDeclaredMethods()) {
            check.due("one method of the name " + method.getName(), names.add(method.getName()), true);
        }
    }
}
