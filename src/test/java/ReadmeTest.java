import java.io.IOException;
import java.lang.reflect.InvocationTargetException;
import java.lang.reflect.Method;
import java.nio.file.Files;
import java.nio.file.Path;
import java.util.regex.Matcher;
import java.util.regex.Pattern;

/** The example in README.md: each call there does what the comment beside it says. */
public final class ReadmeTest {
    private static final Pattern CALL = Pattern.compile("bench\\.(\\w+)\\((.*?)\\); +// (answers|register (\\d):) (.*)");

    private static final Bench bench = new Bench();

    public static void main(String[] args) throws IOException, ReflectiveOperationException {
        String page = Files.readString(Path.of("README.md"));
        int start = page.indexOf("```java\n") + "```java\n".length();
        String[] lines = page.substring(start, page.indexOf("```", start)).split("\n");
        Check.equal("the first line", "StepBench bench = new StepBench();", lines[0]);
        Check.equal("more than one line", true, lines.length > 1);
        for (int i = 1; i < lines.length; i++) {
            checkLine(lines[i]);
        }
        Check.finish();
    }

    private static void checkLine(String line) throws ReflectiveOperationException {
        Matcher call = CALL.matcher(line);
        Check.equal(line + " is a call with what it does", true, call.matches());
        if (!call.matches()) {
            return;
        }
        String answer = answer(call.group(1), call.group(2).split(", "));
        String due = call.group(5);
        String register = call.group(4);
        Check.equal(line, due, register == null ? answer : bench.text(Integer.parseInt(register)));
    }

    private static String answer(String name, String[] numbers) throws ReflectiveOperationException {
        Object[] arguments = new Object[numbers.length];
        Class<?>[] types = new Class<?>[numbers.length];
        for (int i = 0; i < numbers.length; i++) {
            arguments[i] = Integer.decode(numbers[i]);
            types[i] = int.class;
        }
        Method method = StepBench.class.getMethod(name, types);
        try {
            return String.valueOf(method.invoke(bench.x, arguments));
        } catch (InvocationTargetException e) {
            return "threw " + e.getCause();
        }
    }
}
