import java.io.IOException;
import java.lang.reflect.Method;
import java.lang.reflect.Modifier;
import java.nio.file.Files;
import java.nio.file.Path;
import java.util.Arrays;
import java.util.Set;
import java.util.TreeSet;
import java.util.regex.Matcher;
import java.util.regex.Pattern;

/**
 * README.md's example, line by line: the answer at the head of a line's comment is the one the
 * call gives, and no call of the class is left out. Run from the project's folder.
 */
public final class ReadmeTest {
    private static final Pattern EXAMPLE = Pattern.compile("(?s)```java\n(.*?)```");
    private static final Pattern CALL = Pattern.compile("s\\.(\\w+)\\(([^)]*)\\);\\s*// (.*)");
    private static final Pattern ANSWER = Pattern.compile("(-?\\d+|true|false)(:.*)?");
    private static final String BEGINNING = "LazyClauseSolver s = new LazyClauseSolver();";

    private static final Check check = new Check("ReadmeTest");

    private final LazyClauseSolver program = new LazyClauseSolver();
    private final Set<String> called = new TreeSet<>();

    public static void main(String[] args) throws IOException, ReflectiveOperationException {
        Matcher example = EXAMPLE.matcher(Files.readString(Path.of("README.md")));
        boolean found = example.find();
        check.due("there is an example", found, true);
        if (found) {
            new ReadmeTest().follow(example.group(1));
        }
        check.end();
    }

    private void follow(String example) throws ReflectiveOperationException {
        check.due("begins with a new object", example.startsWith(BEGINNING), true);
        for (String line : example.substring(BEGINNING.length()).lines().toList()) {
            Matcher call = CALL.matcher(line);
            if (call.matches()) {
                call(call.group(1), call.group(2), call.group(3));
            } else {
                check.due("a call: " + line, line.isBlank(), true);
            }
        }
        for (Method method : LazyClauseSolver.class.getDeclaredMethods()) {
            if (Modifier.isPublic(method.getModifiers())) {
                check.due(method.getName() + " is in the example", called.contains(method.getName()), true);
            }
        }
    }

    private void call(String name, String handedOver, String comment) throws ReflectiveOperationException {
        called.add(name);
        Object[] numbers = Pattern.compile("-?\\d+").matcher(handedOver).results()
            .map(number -> Integer.valueOf(number.group())).toArray();
        Class<?>[] types = new Class<?>[numbers.length];
        Arrays.fill(types, int.class);
        Object answer = LazyClauseSolver.class.getMethod(name, types).invoke(program, numbers);
        Matcher due = ANSWER.matcher(comment);
        String told = due.matches() ? due.group(1) : "null";
        String what = name + "(" + handedOver + ") answered " + answer + ", README.md says " + told;
        check.due(what, told.equals(String.valueOf(answer)), true);
    }
}
