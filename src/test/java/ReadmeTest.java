import java.io.IOException;
import java.lang.reflect.InvocationTargetException;
import java.nio.file.Files;
import java.nio.file.Path;
import java.util.Arrays;
import java.util.regex.Matcher;
import java.util.regex.Pattern;

/** Makes the calls of README.md's example, so that what it tells of their answers stays true. */
public final class ReadmeTest {
    private static final Pattern CALL = Pattern.compile("kernel\\.(\\w+)\\(([-0-9, ]*)\\); *// (-?\\w+): .*");

    public static void main(String[] args) throws IOException {
        Check check = new Check("README.md");
        CapKernel kernel = new CapKernel();
        int calls = 0;
        boolean inExample = false;
        for (String line : Files.readAllLines(Path.of("README.md"))) {
            Matcher call = CALL.matcher(line);
            if (line.startsWith("```")) {
                inExample = line.equals("```java");
            } else if (inExample && call.matches()) {
                String got = answerOf(kernel, call.group(1), numbersOf(call.group(2)));
                if (!got.equals(call.group(3))) {
                    check.tell(line + " answered " + got);
                }
                calls++;
            } else if (inExample && line.startsWith("kernel.")) {
                check.tell("no answer stands behind " + line);
            }
        }
        if (calls == 0) {
            check.tell("there is no example");
        }
        check.end();
    }

    private static int[] numbersOf(String arguments) {
        if (arguments.isEmpty()) {
            return new int[0];
        }
        return Arrays.stream(arguments.split(", ")).mapToInt(Integer::parseInt).toArray();
    }

    private static String answerOf(CapKernel kernel, String name, int[] numbers) {
        Class<?>[] types = new Class<?>[numbers.length];
        Arrays.fill(types, int.class);
        try {
            Object[] arguments = Arrays.stream(numbers).boxed().toArray();
            return CapKernel.class.getMethod(name, types).invoke(kernel, arguments).toString();
        } catch (InvocationTargetException thrown) {
            return thrown.getCause().getClass().getSimpleName();
        } catch (ReflectiveOperationException none) {
            return "nothing: there is no such call";
        }
    }
}
