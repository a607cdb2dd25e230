import java.io.IOException;
import java.nio.file.Files;
import java.nio.file.Path;
import java.util.LinkedHashMap;
import java.util.Map;
import java.util.Set;
import java.util.TreeSet;
import java.util.regex.Matcher;
import java.util.regex.Pattern;

/** The rules of LANGUAGE.md that can be seen on the text of the class; FaceTest has those of the compiled one. */
public final class LanguageTest {
    private static final Path PROGRAM = Path.of("src", "main", "java", "TableEngine.java");
    private static final String[] FORBIDDEN = {
        "package", "import", "interface", "enum", "record", "extends", "implements", "protected", "float", "double",
        "String", "Object", "Math", "Integer", "Long", "System", "Arrays", "null", "throw", "throws", "try", "catch",
        "synchronized", "assert", "instanceof", "volatile", "native", "var", "this", "super", "hashCode", "equals",
        "toString", "getClass", "clone", "length"};
    private static final String[] FORBIDDEN_SIGNS = {"->", "::", "@", "\"", "'", "[][]", "static {"};
    private static final Pattern METHOD =
        Pattern.compile("^ {4}(?:public|private)(?: static)? (?:int|long|boolean|void) (\\w+)\\(.*\\) \\{$");
    private static final Pattern CALL = Pattern.compile("\\b(?!if\\b|for\\b|switch\\b|return\\b)(\\w+)\\(");
    private static final Pattern COUNTED =
        Pattern.compile("for \\(int (\\w+) = [^;]+; \\1 (<|>) \\w+[^;]*; \\1(\\+\\+|--)\\) \\{");
    private static final Pattern ARRAY_FIELD =
        Pattern.compile(" {4}private final (\\w+)\\[\\] \\w+ = new \\1\\[[A-Z_]+\\];");

    public static void main(String[] args) throws IOException {
        String text = Files.readString(PROGRAM).replaceAll("(?s)/\\*.*?\\*/", "").replaceAll("//[^\n]*", "");
        words(text);
        arrays(text);
        loops(text);
        Map<String, String> methods = methods(text);
        calls(methods);
        depth(methods);
        Due.end("LanguageTest");
    }

    private static void words(String text) {
        for (String word : FORBIDDEN) {
            Due.is("the word " + word, Pattern.compile("\\b" + word + "\\b").matcher(text).find(), false);
        }
        for (String sign : FORBIDDEN_SIGNS) {
            Due.is("the sign " + sign, text.contains(sign), false);
        }
        Due.is("one class", text.split("\\bclass\\b", -1).length, 2);
    }

    /** Rule 4: each array is made where its field stands, and nowhere else is anything made. */
    private static void arrays(String text) {
        for (String line : text.split("\n")) {
            if (line.matches(".*\\bnew\\b.*")) {
                Due.is("an array of a field: " + line, ARRAY_FIELD.matcher(line).matches(), true);
            } else if (line.startsWith("    private final")) {
                Due.is("made where it stands: " + line, false, true);
            }
            boolean local = line.matches(" {8,}\\w+\\[\\] .*");
            Due.is("no local name for an array: " + line, local, false);
        }
    }

    /** Rule 8: a counter against a bound, in every loop's own line. */
    private static void loops(String text) {
        Due.is("while and do", Pattern.compile("\\b(while|do)\\b").matcher(text).find(), false);
        for (String line : text.split("\n")) {
            if (line.contains("for (")) {
                Due.is("counted: " + line, COUNTED.matcher(line.trim()).matches(), true);
            }
        }
    }

    /** The bodies of the methods by their names. */
    private static Map<String, String> methods(String text) {
        Map<String, String> methods = new LinkedHashMap<>();
        String name = "";
        for (String line : text.split("\n")) {
            Matcher head = METHOD.matcher(line);
            if (head.matches()) {
                name = head.group(1);
                Due.is("a name that no other method has: " + name, methods.containsKey(name), false);
                methods.put(name, "");
            } else if (line.equals("    }")) {
                name = "";
            } else if (!name.isEmpty()) {
                methods.merge(name, line + "\n", String::concat);
            }
        }
        Due.is("there are methods", methods.size() > 16, true);
        for (Map.Entry<String, String> method : methods.entrySet()) {
            int lines = method.getValue().split("\n").length;
            Due.is(method.getKey() + " has " + lines + " lines", lines <= 58, true);
        }
        return methods;
    }

    /** Rules 3 and 10: only the class's own methods are called, and no call stands in another one's arguments. */
    private static void calls(Map<String, String> methods) {
        for (Map.Entry<String, String> method : methods.entrySet()) {
            String body = method.getValue();
            Matcher call = CALL.matcher(body);
            while (call.find()) {
                String what = call.group(1) + " in " + method.getKey();
                Due.is("a method of the class: " + what, methods.containsKey(call.group(1)), true);
                String within = arguments(body, call.end());
                Due.is("no call in the arguments of " + what, CALL.matcher(within).find(), false);
            }
        }
    }

    private static String arguments(String body, int start) {
        int open = 1;
        int end = start;
        while (open > 0) {
            char sign = body.charAt(end);
            open += sign == '(' ? 1 : sign == ')' ? -1 : 0;
            end++;
        }
        return body.substring(start, end - 1);
    }

    /** Rules 8 and 10: a method that calls just methods of depth n has depth n + 1; recursion would have none. */
    private static void depth(Map<String, String> methods) {
        Set<String> known = new TreeSet<>();
        for (int deep = 1; deep <= 6; deep++) {
            Set<String> more = new TreeSet<>();
            for (Map.Entry<String, String> method : methods.entrySet()) {
                Set<String> called = new TreeSet<>();
                CALL.matcher(method.getValue()).results().forEach(call -> called.add(call.group(1)));
                if (known.containsAll(called)) {
                    more.add(method.getKey());
                }
            }
            known = more;
        }
        Set<String> deeper = new TreeSet<>(methods.keySet());
        deeper.removeAll(known);
        Due.is("calls more than six deep, or without an end: " + deeper, deeper.size(), 0);
    }
}
