import java.io.IOException;
import java.lang.reflect.Method;
import java.lang.reflect.Modifier;
import java.nio.file.DirectoryStream;
import java.nio.file.Files;
import java.nio.file.Path;
import java.util.Arrays;
import java.util.regex.Matcher;
import java.util.regex.Pattern;

/** Runs the examples of README.md, so that it cannot tell what the class does not do. */
public final class ReadmeTest extends Answers {
    private static final Path TESTS = Path.of("src/test/java");
    private static final Pattern EXAMPLE = Pattern.compile("(?ms)^```java\n(.*?)^```$");
    private static final Pattern MAKE = Pattern.compile("SymmetricChecker x = new SymmetricChecker\\((\\d+)\\);");
    private static final Pattern CALL = Pattern.compile("x\\.(\\w+)\\(([^()]*)\\); +// (-?\\d+)\\b( = ([\\d *+]+))?.*");

    public static void main(String[] args) throws IOException {
        String readme = Files.readString(Path.of("README.md"));
        about("the examples");
        Matcher example = EXAMPLE.matcher(readme);
        while (example.find()) {
            runExample(example.group(1));
        }
        about("the table of calls");
        for (Method method : SymmetricChecker.class.getDeclaredMethods()) {
            if (Modifier.isPublic(method.getModifiers())) {
                dueRow(readme, method);
            }
        }
        about("the list of tests");
        dueTests(readme);
        end();
    }

    private static void runExample(String lines) {
        SymmetricChecker x = null;
        for (String line : lines.split("\n")) {
            Matcher make = MAKE.matcher(line);
            Matcher call = CALL.matcher(line);
            if (make.matches()) {
                x = new SymmetricChecker(Integer.parseInt(make.group(1)));
            } else if (x != null && call.matches()) {
                int told = Integer.parseInt(call.group(3));
                due(line, answer(x, call.group(1), numbers(call.group(2))), told);
                if (call.group(5) != null) {
                    due("the sum in " + line, sum(call.group(5)), told);
                }
            } else {
                fail("this line can't be run: " + line);
            }
        }
    }

    private static int answer(SymmetricChecker x, String name, int[] numbers) {
        Class<?>[] types = new Class<?>[numbers.length];
        Arrays.fill(types, int.class);
        try {
            Method method = SymmetricChecker.class.getMethod(name, types);
            return (Integer) method.invoke(x, Arrays.stream(numbers).boxed().toArray());
        } catch (ReflectiveOperationException e) {
            throw new IllegalStateException(name + " can't be called as README.md calls it", e);
        }
    }

    private static int[] numbers(String arguments) {
        if (arguments.isEmpty()) {
            return new int[0];
        }
        return Arrays.stream(arguments.split(",")).mapToInt(ReadmeTest::sum).toArray();
    }

    /** The value of a sum of products of numbers, such as 3 * 0 + 1. */
    private static int sum(String words) {
        int sum = 0;
        for (String product : words.split("\\+")) {
            int value = 1;
            for (String factor : product.split("\\*")) {
                value *= Integer.parseInt(factor.trim());
            }
            sum += value;
        }
        return sum;
    }

    private static void dueRow(String readme, Method method) {
        Matcher row = Pattern.compile("(?m)^\\| `" + method.getName() + "\\(([^)]*)\\)` ").matcher(readme);
        boolean found = row.find();
        due("is there a row for " + method.getName(), found ? 1 : 0, 1);
        if (found) {
            int told = row.group(1).isEmpty() ? 0 : row.group(1).split(",").length;
            due("arguments told for " + method.getName(), told, method.getParameterCount());
        }
    }

    private static void dueTests(String readme) throws IOException {
        try (DirectoryStream<Path> files = Files.newDirectoryStream(TESTS, "*.java")) {
            for (Path file : files) {
                String name = file.getFileName().toString().replace(".java", "");
                boolean told = Pattern.compile("(?m)^- .*`" + name + "`").matcher(readme).find();
                due("is " + name + " told of", told ? 1 : 0, 1);
            }
        }
    }
}
