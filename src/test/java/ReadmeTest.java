import java.io.File;
import java.io.IOException;
import java.lang.reflect.Method;
import java.lang.reflect.Modifier;
import java.nio.file.Files;
import java.nio.file.Path;
import java.util.regex.Matcher;
import java.util.regex.Pattern;

/** README.md: its example answers as it says, and it names every method, every test and .ci/run. */
public final class ReadmeTest {
    private static final Pattern CALL = Pattern.compile("fit\\.(\\w+)\\(([^)]*)\\);\\s*// (-?\\d+|true|false)\\b");

    public static void main(String[] args) throws IOException, ReflectiveOperationException {
        String text = Files.readString(Path.of("README.md"));
        example(text);
        for (Method method : LeastDeviations.class.getDeclaredMethods()) {
            if (Modifier.isPublic(method.getModifiers())) {
                named(text, "`" + method.getName() + "(");
            }
        }
        for (String file : new File("src/test/java").list()) {
            named(text, "`" + file.replace(".java", "") + "`");
        }
        named(text, ".ci/run");
        Check.end();
    }

    private static void named(String text, String what) {
        Check.same("README.md names " + what, text.contains(what), true);
    }

    private static void example(String text) throws ReflectiveOperationException {
        LeastDeviations fit = new LeastDeviations();
        Matcher call = CALL.matcher(text);
        int calls = 0;
        while (call.find()) {
            String answer = ask(fit, call.group(1), call.group(2));
            Check.same(call.group() + " but the answer is " + answer, answer.equals(call.group(3)), true);
            calls++;
        }
        Check.same("calls of the example whose answer is told", calls, text.split("fit\\.", -1).length - 1);
        Check.same("the example has calls", calls > 0, true);
    }

    private static String ask(LeastDeviations fit, String name, String given) throws ReflectiveOperationException {
        String[] words = given.isEmpty() ? new String[0] : given.split(", ");
        Object[] numbers = new Object[words.length];
        Class<?>[] types = new Class<?>[words.length];
        for (int t = 0; t < words.length; t++) {
            numbers[t] = Integer.valueOf(words[t]);
            types[t] = int.class;
        }
        return String.valueOf(LeastDeviations.class.getMethod(name, types).invoke(fit, numbers));
    }
}
