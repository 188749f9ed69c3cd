import java.io.IOException;
import java.lang.reflect.Method;
import java.lang.reflect.Modifier;
import java.nio.file.Files;
import java.nio.file.Path;
import java.util.Arrays;
import java.util.regex.Matcher;
import java.util.regex.Pattern;

/** README.md: its example answers what it says there, and every call of the face is told. */
public final class ReadmeTest {
    private static final Path README = Path.of("README.md");
    private static final Pattern EXAMPLE = Pattern.compile("(?s)```java\\n(.*?)```");
    private static final Pattern TEXT = Pattern.compile("\"([^\"]*)\"\\.toCharArray");
    private static final Pattern CALL =
            Pattern.compile("ice\\.(\\w+)\\(([-0-9, ]*)\\);\\s*// (-?[0-9]+):");

    public static void main(String[] args) throws IOException, ReflectiveOperationException {
        String readme = Files.readString(README);
        exampleAnswersAsItSays(readme);
        everyCallIsTold(readme);
        Due.dueTrue("how to run the tests", readme.contains(".ci/run"));
        Due.end();
    }

    private static void exampleAnswersAsItSays(String readme)
            throws ReflectiveOperationException {
        Matcher example = EXAMPLE.matcher(readme);
        Due.dueTrue("an example", example.find());
        Matcher text = TEXT.matcher(example.group(1));
        Due.dueTrue("a text in it", text.find());
        IceInherited ice = Due.written(text.group(1));
        Matcher call = CALL.matcher(example.group(1));
        int calls = 0;
        while (call.find()) {
            int[] numbers = Arrays.stream(call.group(2).split(", *"))
                    .filter(number -> !number.isEmpty()).mapToInt(Integer::parseInt).toArray();
            Due.due(call.group(), asked(ice, call.group(1), numbers),
                    Integer.parseInt(call.group(3)));
            calls++;
        }
        Due.due("calls with an answer", calls, example.group(1).split("//").length - 1);
        Due.dueTrue("some calls", calls > 5);
    }

    private static int asked(IceInherited ice, String name, int[] numbers)
            throws ReflectiveOperationException {
        Class<?>[] types = new Class<?>[numbers.length];
        Arrays.fill(types, int.class);
        Object[] values = Arrays.stream(numbers).boxed().toArray();
        return (int) IceInherited.class.getMethod(name, types).invoke(ice, values);
    }

    private static void everyCallIsTold(String readme) {
        for (Method method : IceInherited.class.getDeclaredMethods()) {
            if (Modifier.isPublic(method.getModifiers())) {
                Pattern told = Pattern.compile("`" + method.getName() + "\\(([a-z, ]*)\\)`");
                Matcher matcher = told.matcher(readme);
                boolean found = matcher.find();
                Due.dueTrue(method.getName() + " is told", found);
                if (found) {
                    String names = matcher.group(1);
                    Due.due("numbers of " + method.getName(),
                            names.isEmpty() ? 0 : names.split(",").length,
                            method.getParameterCount());
                }
            }
        }
    }
}
