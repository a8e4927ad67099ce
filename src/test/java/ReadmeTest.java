import java.io.IOException;
import java.lang.reflect.Field;
import java.lang.reflect.Method;
import java.lang.reflect.Modifier;
import java.nio.file.Files;
import java.nio.file.Path;
import java.util.List;
import java.util.regex.Matcher;
import java.util.regex.Pattern;
import java.util.stream.Stream;

/** README.md: its example answers as it says, and it names all that there is to use. */
final class ReadmeTest {
    private static final Pattern CALL = Pattern.compile("x\\.(\\w+)\\((.*)\\);\\s*// ([^:]+)(:.*)?");

    /** The value of a number or of a constant of the class. */
    private static int value(String word) throws ReflectiveOperationException {
        if (word.matches("-?\\d+")) {
            return Integer.parseInt(word);
        }
        return PrecRewrite.class.getField(word.replace("PrecRewrite.", "")).getInt(null);
    }

    private static int answer(PrecRewrite x, String name, String arguments) throws ReflectiveOperationException {
        String[] words = arguments.isEmpty() ? new String[0] : arguments.split(", ");
        Object[] values = new Object[words.length];
        Class<?>[] types = new Class<?>[words.length];
        for (int i = 0; i < words.length; i++) {
            values[i] = value(words[i]);
            types[i] = int.class;
        }
        return (int) PrecRewrite.class.getMethod(name, types).invoke(x, values);
    }

    private static void exampleAnswers(Check check, String readme) throws ReflectiveOperationException {
        String block = readme.split("```java\n")[1].split("```")[0];
        List<String> lines = block.lines().filter(line -> !line.isEmpty()).toList();
        check.holds("the example starts with its object", lines.get(0).equals("PrecRewrite x = new PrecRewrite(16);"));
        PrecRewrite x = new PrecRewrite(16);
        for (String line : lines.subList(1, lines.size())) {
            Matcher call = CALL.matcher(line);
            check.holds("a call and its answer: " + line, call.matches());
            check.due(line, answer(x, call.group(1), call.group(2)), value(call.group(3)));
        }
    }

    private static void namesEveryCall(Check check, String readme) {
        for (Method method : PrecRewrite.class.getDeclaredMethods()) {
            if (Modifier.isPublic(method.getModifiers())) {
                check.holds("README.md names " + method.getName(), readme.contains("`" + method.getName() + "("));
            }
        }
    }

    private static void namesEveryConstant(Check check, String readme) {
        for (Field field : PrecRewrite.class.getFields()) {
            check.holds("README.md names " + field.getName(), readme.contains("`" + field.getName() + "`"));
        }
    }

    private static void namesEveryTest(Check check, String readme) throws IOException {
        try (Stream<Path> files = Files.list(Path.of("src/test/java"))) {
            for (Path file : files.filter(Files::isRegularFile).toList()) {
                String name = file.getFileName().toString().replace(".java", "");
                check.holds("README.md has a row for " + name, readme.contains("| `" + name + "` |"));
            }
        }
    }

    public static void main(String[] args) throws IOException, ReflectiveOperationException {
        Check check = new Check();
        String readme = Files.readString(Path.of("README.md"));
        exampleAnswers(check, readme);
        namesEveryCall(check, readme);
        namesEveryConstant(check, readme);
        namesEveryTest(check, readme);
        check.end();
    }
}
