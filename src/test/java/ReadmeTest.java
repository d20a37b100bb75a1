import java.io.IOException;
import java.lang.reflect.InvocationTargetException;
import java.lang.reflect.Method;
import java.lang.reflect.Modifier;
import java.nio.charset.StandardCharsets;
import java.nio.file.Files;
import java.nio.file.Path;
import java.util.regex.Matcher;
import java.util.regex.Pattern;

/** README.md's example answers what it says, and each call of the face is told of. Run where README.md lies. */
public final class ReadmeTest {
    private static final Pattern CALL = Pattern.compile("mill\\.(\\w+)\\(([^)]*)\\);(?: +// (-?\\w+): .*)?");

    private static int wrong = 0;

    private static void fault(String text) {
        wrong++;
        System.out.println("README.md: " + text);
    }

    private static String example(String readme) {
        int from = readme.indexOf("```java\n");
        int to = readme.indexOf("\n```\n", Math.max(from, 0));
        return from < 0 || to < 0 ? "" : readme.substring(from + "```java\n".length(), to);
    }

    private static Method method(String name) {
        for (Method method : ScanMill.class.getDeclaredMethods()) {
            if (method.getName().equals(name) && Modifier.isPublic(method.getModifiers())) {
                return method;
            }
        }
        return null;
    }

    private static Object[] numbers(String args) {
        if (args.isBlank()) {
            return new Object[0];
        }
        String[] words = args.split(", ");
        Object[] numbers = new Object[words.length];
        for (int i = 0; i < words.length; i++) {
            numbers[i] = Integer.valueOf(words[i]);
        }
        return numbers;
    }

    private static String answer(ScanMill mill, Method method, Object[] args) throws IllegalAccessException {
        try {
            return String.valueOf(method.invoke(mill, args));
        } catch (InvocationTargetException e) {
            return e.getCause().getClass().getSimpleName();
        }
    }

    private static void checkLine(ScanMill mill, String line) throws IllegalAccessException {
        Matcher call = CALL.matcher(line);
        Method method = call.matches() ? method(call.group(1)) : null;
        if (method == null) {
            fault("no such call: " + line);
            return;
        }
        // A call without an answer behind it is a void one.
        String due = String.valueOf(call.group(3));
        String answer = answer(mill, method, numbers(call.group(2)));
        if (!answer.equals(due)) {
            fault(line + " answered " + answer);
        }
    }

    private static void checkExample(String readme) throws IllegalAccessException {
        String[] lines = example(readme).split("\n");
        if (!lines[0].equals("ScanMill mill = new ScanMill();") || lines.length < 2) {
            fault("there is no example");
            return;
        }
        ScanMill mill = new ScanMill();
        for (int i = 1; i < lines.length; i++) {
            checkLine(mill, lines[i]);
        }
    }

    private static void checkFaceIsTold(String readme) {
        for (Method method : ScanMill.class.getDeclaredMethods()) {
            if (!Modifier.isPublic(method.getModifiers())) {
                continue;
            }
            if (!readme.contains("`" + method.getName() + "(")) {
                fault("nothing is said of " + method.getName());
            }
            if (!example(readme).contains("mill." + method.getName() + "(")) {
                fault("the example does without " + method.getName());
            }
        }
    }

    public static void main(String[] args) throws IOException, IllegalAccessException {
        String readme = Files.readString(Path.of("README.md"), StandardCharsets.UTF_8);
        checkExample(readme);
        checkFaceIsTold(readme);
        System.out.println(wrong == 0 ? "the example answers what it says" : wrong + " faults");
        if (wrong != 0) {
            System.exit(1);
        }
    }
}
