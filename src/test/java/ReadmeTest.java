import java.io.IOException;
import java.lang.reflect.InvocationTargetException;
import java.lang.reflect.Method;
import java.nio.file.Files;
import java.nio.file.Path;
import java.util.regex.Matcher;
import java.util.regex.Pattern;

/** The example of README.md: each of its calls answers what stands behind it. */
final class ReadmeTest {
    private static final Check CHECK = new Check("ReadmeTest");
    private static final Pattern EXAMPLE = Pattern.compile("(?s)```java\n(.*?)```");
    private static final Pattern TEXT = Pattern.compile("for \\(char character : \"(.*)\"\\.toCharArray\\(\\)\\) \\{");
    private static final Pattern CALL = Pattern.compile("book\\.(\\w+)\\((.*)\\);\\s+// (-?\\d+): .*");

    public static void main(String[] args) throws IOException, ReflectiveOperationException {
        String readme = Files.readString(Path.of("README.md"));
        Matcher example = EXAMPLE.matcher(readme);
        CHECK.due("README.md has an example", example.find() ? 1 : 0, 1);
        run(example.group(1));
        for (Method method : QuireSigns.class.getMethods()) {
            if (method.getDeclaringClass() == QuireSigns.class) {
                String name = "`" + method.getName() + "`";
                CHECK.due("README.md names " + name, readme.contains(name) ? 1 : 0, 1);
            }
        }
        CHECK.end();
    }

    private static void run(String example) throws ReflectiveOperationException {
        QuireSigns book = null;
        int calls = 0;
        for (String line : example.split("\n")) {
            Matcher text = TEXT.matcher(line);
            Matcher call = CALL.matcher(line);
            if (line.equals("QuireSigns book = new QuireSigns();")) {
                book = new QuireSigns();
            } else if (text.matches()) {
                for (char character : text.group(1).toCharArray()) {
                    book.type(character);
                }
            } else if (call.matches()) {
                calls++;
                CHECK.due(line, answer(book, call.group(1), call.group(2)), Integer.parseInt(call.group(3)));
            } else {
                boolean restOfLoop = line.equals("    book.type(character);") || line.equals("}");
                CHECK.due("a line that is understood: " + line, restOfLoop ? 1 : 0, 1);
            }
        }
        CHECK.due("calls of the example", calls > 0 ? 1 : 0, 1);
    }

    private static int answer(QuireSigns book, String name, String told) throws ReflectiveOperationException {
        String[] words = told.isEmpty() ? new String[0] : told.split(", ");
        for (Method method : QuireSigns.class.getMethods()) {
            if (method.getName().equals(name) && method.getParameterCount() == words.length) {
                Object[] arguments = new Object[words.length];
                for (int i = 0; i < words.length; i++) {
                    arguments[i] = argument(words[i]);
                }
                try {
                    return (Integer) method.invoke(book, arguments);
                } catch (InvocationTargetException e) {
                    throw new IllegalStateException(name + " threw", e);
                }
            }
        }
        throw new IllegalStateException("no such call: " + name);
    }

    private static Object argument(String word) {
        if (word.startsWith("'")) {
            return word.charAt(1);
        }
        if (word.equals("true") || word.equals("false")) {
            return Boolean.valueOf(word);
        }
        return Integer.valueOf(word);
    }
}
