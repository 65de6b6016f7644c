import java.io.IOException;
import java.lang.reflect.Field;
import java.lang.reflect.Method;
import java.lang.reflect.Modifier;
import java.nio.file.Files;
import java.nio.file.Path;
import java.util.Set;
import java.util.regex.Matcher;
import java.util.regex.Pattern;

/** What can be seen of ../shared/LANGUAGE.md without a compiler's help; run from the project's folder. */
public final class LanguageTest {
    private static final Path SOURCE = Path.of("src/main/java/LazyClauseSolver.java");
    private static final String[] FORBIDDEN = {
        "package", "import", "float", "double", "String", "Math", "Integer", "Long", "System", "Arrays", "Object",
        "null", "throw", "throws", "try", "catch", "synchronized", "assert", "instanceof", "interface",
        "enum", "record", "protected", "extends", "implements", "native", "Thread", "Random",
        "toString", "equals", "hashCode", "getClass", "clone"
    };
    private static final Set<Class<?>> NUMBERS =
        Set.of(int.class, long.class, short.class, byte.class, char.class, boolean.class);
    private static final int MOST_LINES = 60;
    private static final int MOST_FIELDS = 40;
    private static final int MOST_PARAMETERS = 7;

    private static final Check check = new Check("LanguageTest");

    public static void main(String[] args) throws IOException {
        String code = withoutComments(Files.readString(SOURCE));
        forbiddenWords(code);
        arraysMadeInFields(code);
        shortMethods(code);
        fields();
        methods();
        check.end();
    }

    private static String withoutComments(String text) {
        return text.replaceAll("(?s)/\\*.*?\\*/", "").replaceAll("//[^\n]*", "");
    }

    // Rules 1, 2, 3, 6, 11.
    private static void forbiddenWords(String code) {
        for (String word : FORBIDDEN) {
            check.due("the word " + word, occurrences(code, "\\b" + word + "\\b"), 0);
        }
        check.due("one class", occurrences(code, "\\bclass\\b"), 1);
        check.due("lambdas and method references", occurrences(code, "->|::"), 0);
        check.due("static initialisers", occurrences(code, "static\\s*\\{"), 0);
    }

    // Rule 4: arrays are made in fields' initialisers, with a constant length.
    private static void arraysMadeInFields(String code) {
        int made = occurrences(code, "\\bnew\\b");
        int inFields = occurrences(code, "(?m)^    private final \\w+\\[\\] \\w+ = new \\w+\\[[A-Z_0-9]+\\];$");
        check.due("arrays made outside fields' initialisers", made - inFields, 0);
    }

    // Rule 10: a method ends with the first closing brace at its own indentation.
    private static void shortMethods(String code) {
        Matcher method = Pattern.compile("(?ms)^    (?:public|private)[^;=]*?\\{$(.*?)^    \\}$").matcher(code);
        int found = 0;
        while (method.find()) {
            found++;
            check.due("a method short enough", method.group().lines().count() <= MOST_LINES, true);
        }
        check.due("methods found", found > 0, true);
    }

    // Rules 2, 5, 10.
    private static void fields() {
        int notConstant = 0;
        for (Field field : LazyClauseSolver.class.getDeclaredFields()) {
            Class<?> type = field.getType();
            Class<?> part = type.isArray() ? type.getComponentType() : type;
            check.due("type of " + field.getName(), NUMBERS.contains(part), true);
            if (Modifier.isStatic(field.getModifiers())) {
                boolean constant = Modifier.isFinal(field.getModifiers()) && (type == int.class || type == long.class);
                check.due("a constant: " + field.getName(), constant, true);
            } else {
                notConstant++;
            }
        }
        check.due("few enough fields", notConstant <= MOST_FIELDS, true);
    }

    // Rules 4, 10: no array is answered, and the parameters are few.
    private static void methods() {
        for (Method method : LazyClauseSolver.class.getDeclaredMethods()) {
            Class<?> answer = method.getReturnType();
            check.due("answer of " + method.getName(), answer == void.class || NUMBERS.contains(answer), true);
            check.due("parameters of " + method.getName(), method.getParameterCount() <= MOST_PARAMETERS, true);
        }
    }

    private static int occurrences(String code, String pattern) {
        return (int) Pattern.compile(pattern).matcher(code).results().count();
    }
}
