import java.io.IOException;
import java.lang.reflect.Method;
import java.lang.reflect.Modifier;
import java.nio.file.DirectoryStream;
import java.nio.file.Files;
import java.nio.file.Path;
import java.util.HashMap;
import java.util.HashSet;
import java.util.Map;
import java.util.Set;
import java.util.regex.Matcher;
import java.util.regex.Pattern;

/** README.md: its example answers what it says there, and it leaves out no call of the class and no test. */
public final class ReadmeTest {
    private static final Path README = Path.of("README.md");
    private static final Path TESTS = Path.of("src", "test", "java");
    private static final String BEGIN = "TableEngine x = new TableEngine();";
    private static final Pattern CALL = Pattern.compile("x\\.(\\w+)\\((.*?)\\); +// (-?\\w+)(: .*)?");

    public static void main(String[] args) throws IOException, ReflectiveOperationException {
        String text = Files.readString(README);
        Map<String, Method> calls = calls();
        example(text, calls);
        for (String name : calls.keySet()) {
            Due.is("the table of calls has " + name, text.contains("`" + name + "("), true);
        }
        tests(text);
        Due.end("ReadmeTest");
    }

    private static Map<String, Method> calls() {
        Map<String, Method> calls = new HashMap<>();
        for (Method m : TableEngine.class.getDeclaredMethods()) {
            if (Modifier.isPublic(m.getModifiers())) {
                calls.put(m.getName(), m);
            }
        }
        return calls;
    }

    private static void example(String text, Map<String, Method> calls) throws ReflectiveOperationException {
        Matcher block = Pattern.compile("(?s)```java\n" + Pattern.quote(BEGIN) + "\n(.*?)```").matcher(text);
        boolean found = block.find();
        Due.is("there is an example", found, true);
        if (!found) {
            return;
        }
        TableEngine x = new TableEngine();
        Set<String> shown = new HashSet<>();
        for (String line : block.group(1).split("\n")) {
            Matcher call = CALL.matcher(line);
            boolean known = call.matches() && calls.containsKey(call.group(1));
            Due.is("a call with its answer: '" + line + "'", known || line.isEmpty(), true);
            if (known) {
                shown.add(call.group(1));
                Due.is(line, answer(x, calls.get(call.group(1)), call.group(2)), number(call.group(3)));
            }
        }
        Due.is("the example has every call of the class", shown.size(), calls.size());
    }

    private static long answer(TableEngine x, Method call, String words) throws ReflectiveOperationException {
        String[] parts = words.isEmpty() ? new String[0] : words.split(", ");
        Object[] arguments = new Object[parts.length];
        for (int i = 0; i < parts.length; i++) {
            boolean truth = parts[i].equals("true") || parts[i].equals("false");
            arguments[i] = truth ? (Object) Boolean.valueOf(parts[i]) : (Object) Integer.valueOf(parts[i]);
        }
        return number(String.valueOf(call.invoke(x, arguments)));
    }

    private static long number(String word) throws ReflectiveOperationException {
        if (word.equals("true") || word.equals("false")) {
            return word.equals("true") ? 1 : 0;
        }
        boolean named = Character.isUpperCase(word.charAt(0));
        return named ? TableEngine.class.getField(word).getLong(null) : Long.parseLong(word);
    }

    private static void tests(String text) throws IOException {
        int found = 0;
        try (DirectoryStream<Path> files = Files.newDirectoryStream(TESTS, "*Test.java")) {
            for (Path file : files) {
                String name = file.getFileName().toString().replace(".java", "");
                Due.is("the table of tests has " + name, text.contains("\n| " + name + " |"), true);
                found++;
            }
        }
        Due.is("there are tests", found > 0, true);
    }
}
