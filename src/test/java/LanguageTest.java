import java.io.IOException;
import java.lang.reflect.Field;
import java.lang.reflect.Method;
import java.lang.reflect.Modifier;
import java.nio.file.Files;
import java.nio.file.Path;
import java.util.Map;
import java.util.Set;
import java.util.TreeMap;
import java.util.TreeSet;
import java.util.regex.Matcher;
import java.util.regex.Pattern;

/** What can be seen of ../shared/LANGUAGE.md without a compiler's help; run from the project's folder. */
public final class LanguageTest {
    private static final Path SOURCE = Path.of("src/main/java/LazyClauseSolver.java");
    private static final String[] FORBIDDEN = {
        "package", "import", "float", "double", "String", "Math", "Integer", "Long", "System", "Arrays", "Object",
        "null", "throw", "throws", "try", "catch", "synchronized", "assert", "instanceof", "interface",
        "enum", "record", "protected", "extends", "implements", "native", "Thread", "Random",
        "toString", "equals", "hashCode", "getClass", "clone"
    };
    private static final Set<Class<?>> NUMBERS =
        Set.of(int.class, long.class, short.class, byte.class, char.class, boolean.class);
    private static final int MOST_LINES = 60;
    private static final int MOST_FIELDS = 40;
    private static final int MOST_PARAMETERS = 7;
    private static final int MOST_DEEP = 6;
    private static final Set<String> NOT_CALLS = Set.of("if", "for", "while", "switch", "return");
    private static final Pattern METHOD =
        Pattern.compile("(?ms)^    (?:public|private)[^;=]*?(\\w+)\\([^)]*\\) \\{$(.*?)^    \\}$");
    private static final Pattern CALL = Pattern.compile("\\b(\\w+)\\s*\\(");

    private static final Check check = new Check("LanguageTest");

    public static void main(String[] args) throws IOException {
        String code = withoutComments(Files.readString(SOURCE));
        forbiddenWords(code);
        arraysMadeInFields(code);
        shortMethods(code);
        ownCallsAlone(code);
        callsInArguments(code);
        fields();
        methods();
        check.end();
    }

    private static String withoutComments(String text) {
        return text.replaceAll("(?s)/\\*.*?\\*/", "").replaceAll("//[^\n]*", "");
    }

    // Rules 1, 2, 3, 6, 11.
    private static void forbiddenWords(String code) {
        for (String word : FORBIDDEN) {
            check.due("the word " + word, occurrences(code, "\\b" + word + "\\b"), 0);
        }
        check.due("one class", occurrences(code, "\\bclass\\b"), 1);
        check.due("lambdas and method references", occurrences(code, "->|::"), 0);
        check.due("static initialisers", occurrences(code, "static\\s*\\{"), 0);
    }

    // Rule 4: arrays are made in fields' initialisers, with a constant length.
    private static void arraysMadeInFields(String code) {
        int made = occurrences(code, "\\bnew\\b");
        int inFields = occurrences(code, "(?m)^    private final \\w+\\[\\] \\w+ = new \\w+\\[[A-Z_0-9]+\\];$");
        check.due("arrays made outside fields' initialisers", made - inFields, 0);
    }

    // Rule 10: a method ends with the first closing brace at its own indentation.
    private static void shortMethods(String code) {
        Matcher method = METHOD.matcher(code);
        int found = 0;
        while (method.find()) {
            found++;
            check.due(method.group(1) + " is short enough", method.group().lines().count() <= MOST_LINES, true);
        }
        int there = LazyClauseSolver.class.getDeclaredMethods().length + 1;
        check.due("methods and the constructor found in the text", found, there);
    }

    private static Set<String> callsIn(String code) {
        Set<String> calls = new TreeSet<>();
        CALL.matcher(code).results().map(call -> call.group(1))
            .filter(name -> !NOT_CALLS.contains(name)).forEach(calls::add);
        return calls;
    }

    private static Map<String, Set<String>> callsOfEachMethod(String code) {
        Map<String, Set<String>> calls = new TreeMap<>();
        METHOD.matcher(code).results().forEach(method -> calls.put(method.group(1), callsIn(method.group(2))));
        return calls;
    }

    // Rules 3, 8, 10: nothing but own methods is called, never in a circle, and not too deep.
    private static void ownCallsAlone(String code) {
        Map<String, Set<String>> calls = callsOfEachMethod(code);
        Set<String> level = new TreeSet<>(calls.keySet());
        int deep = 0;
        // Each round goes one call deeper; a circle would never run out, so the rounds are bounded.
        while (!level.isEmpty() && deep <= MOST_DEEP) {
            Set<String> next = new TreeSet<>();
            for (String name : level) {
                check.due(name + " is an own method", calls.containsKey(name), true);
                next.addAll(calls.getOrDefault(name, Set.of()));
            }
            level = next;
            deep++;
        }
        check.due("calls deeper than " + MOST_DEEP + ": " + level, level.size(), 0);
    }

    // Rule 10: no call stands inside the arguments of another call.
    private static void callsInArguments(String code) {
        Matcher method = METHOD.matcher(code);
        while (method.find()) {
            String body = method.group(2);
            CALL.matcher(body).results().filter(call -> !NOT_CALLS.contains(call.group(1))).forEach(call -> {
                String what = "calls in the arguments of " + call.group(1) + " in " + method.group(1);
                check.due(what, callsIn(argumentsFrom(body, call.end())).size(), 0);
            });
        }
    }

    private static String argumentsFrom(String body, int start) {
        int open = 1;
        int at = start;
        while (open > 0 && at < body.length()) {
            open += body.charAt(at) == '(' ? 1 : body.charAt(at) == ')' ? -1 : 0;
            at++;
        }
        return body.substring(start, at);
    }

    // Rules 2, 5, 10.
    private static void fields() {
        int notConstant = 0;
        for (Field field : LazyClauseSolver.class.getDeclaredFields()) {
            Class<?> type = field.getType();
            Class<?> part = type.isArray() ? type.getComponentType() : type;
            check.due("type of " + field.getName(), NUMBERS.contains(part), true);
            if (Modifier.isStatic(field.getModifiers())) {
                boolean constant = Modifier.isFinal(field.getModifiers()) && (type == int.class || type == long.class);
                check.due("a constant: " + field.getName(), constant, true);
            } else {
                notConstant++;
            }
        }
        check.due("few enough fields", notConstant <= MOST_FIELDS, true);
    }

    // Rules 4, 10: no array is answered, and the parameters are few.
    private static void methods() {
        for (Method method : LazyClauseSolver.class.getDeclaredMethods()) {
            Class<?> answer = method.getReturnType();
            check.due("answer of " + method.getName(), answer == void.class || NUMBERS.contains(answer), true);
            check.due("parameters of " + method.getName(), method.getParameterCount() <= MOST_PARAMETERS, true);
        }
    }

    private static int occurrences(String code, String pattern) {
        return (int) Pattern.compile(pattern).matcher(code).results().count();
    }
}
