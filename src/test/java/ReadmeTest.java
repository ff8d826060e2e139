import java.io.File;
import java.io.IOException;
import java.lang.reflect.Method;
import java.lang.reflect.Modifier;
import java.nio.file.Files;
import java.nio.file.Path;
import java.util.HashMap;
import java.util.Map;
import java.util.regex.Matcher;
import java.util.regex.Pattern;

/** README.md: its example answers what its comments say, and it leaves out no method and no test. */
public final class ReadmeTest {
    private static final Pattern EXAMPLE = Pattern.compile("```java\n(.*?)```", Pattern.DOTALL);
    private static final Pattern MAKES = Pattern.compile(
        "InductChecker x = new InductChecker\\((-?\\d+), (-?\\d+)\\);.*");
    private static final Pattern CALLS = Pattern.compile(
        "(?:int (\\w+) = )?x\\.(\\w+)\\((.*?)\\); +// (-?\\w+).*");

    private final Map<String, Integer> variables = new HashMap<>();
    private InductChecker x = new InductChecker(0, 0);
    private int calls = 0;

    public static void main(String[] args) throws IOException, ReflectiveOperationException {
        String readme = Files.readString(Path.of("README.md"));
        Matcher example = EXAMPLE.matcher(readme);
        Due.is("there is an example", example.find(), true);
        new ReadmeTest().run(example.group(1));
        namesEveryMethod(readme);
        namesEveryTest(readme);
        Due.end();
    }

    private void run(String example) throws ReflectiveOperationException {
        for (String row : example.split("\n")) {
            Matcher makes = MAKES.matcher(row);
            Matcher call = CALLS.matcher(row);
            if (makes.matches()) {
                x = new InductChecker(Integer.parseInt(makes.group(1)), Integer.parseInt(makes.group(2)));
            } else if (call.matches()) {
                runCall(row, call);
            } else {
                Due.is("this row of the example is understood: " + row, false, true);
            }
        }
        Due.is("the example has many calls", calls > 15, true);
    }

    private void runCall(String row, Matcher call) throws ReflectiveOperationException {
        String[] words = call.group(3).isEmpty() ? new String[0] : call.group(3).split(", ");
        Object[] arguments = new Object[words.length];
        for (int k = 0; k < words.length; k++) {
            arguments[k] = variables.containsKey(words[k]) ? variables.get(words[k]) : Integer.valueOf(words[k]);
        }
        Object answer = method(call.group(2)).invoke(x, arguments);
        Due.is("[" + row + "], answered " + answer, answer.toString().equals(due(call.group(4))), true);
        if (call.group(1) != null) {
            variables.put(call.group(1), (Integer) answer);
        }
        calls++;
    }

    private static Method method(String name) throws NoSuchMethodException {
        for (Method method : InductChecker.class.getDeclaredMethods()) {
            if (method.getName().equals(name) && Modifier.isPublic(method.getModifiers())) {
                return method;
            }
        }
        throw new NoSuchMethodException(name);
    }

    private static String due(String word) throws ReflectiveOperationException {
        boolean isConstant = Character.isUpperCase(word.charAt(0));
        return isConstant ? String.valueOf(InductChecker.class.getField(word).getInt(null)) : word;
    }

    private static void namesEveryMethod(String readme) {
        for (Method method : InductChecker.class.getDeclaredMethods()) {
            if (Modifier.isPublic(method.getModifiers())) {
                Due.is(method.getName() + " is named", readme.contains("`" + method.getName() + "("), true);
            }
        }
    }

    private static void namesEveryTest(String readme) {
        for (String file : new File("src/test/java").list()) {
            if (file.endsWith("Test.java")) {
                Due.is(file + " is named", readme.contains("`" + file.replace(".java", "") + "`"), true);
            }
        }
    }
}
