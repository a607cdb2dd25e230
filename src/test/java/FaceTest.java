import java.io.IOException;
import java.lang.reflect.Constructor;
import java.lang.reflect.Field;
import java.lang.reflect.Method;
import java.lang.reflect.Modifier;
import java.nio.file.Files;
import java.nio.file.Path;
import java.util.Arrays;
import java.util.HashSet;
import java.util.Set;
import java.util.TreeSet;

/** The public face, and those rules of LANGUAGE.md that can be seen on the compiled class. */
public final class FaceTest {
    private static final String[] FACE = {
        "int constrain(int, int, int, int, int)", "int insert(int, int, int, int, int)", "int erase()",
        "int change(int, int, int)", "boolean begin()", "boolean end(boolean)", "int source(int)",
        "int condition(int, int, int, boolean, int)", "int output(int, int, int)", "int key(int, boolean)",
        "boolean limit(int, boolean)", "int wipe()", "int run()", "long cell(int, int)", "int rows(int)",
        "long value(int, int, int)"};
    private static final String[] CONSTANTS = {
        "int OK", "int BAD", "int FULL", "int VIOLATED", "int TOO_MANY", "long NULL"};

    private static final Path DOCUMENT = Path.of("..", "shared", "DOC.md");
    private static final Path PROGRAM = Path.of("src", "main", "java", "TableEngine.java");

    public static void main(String[] args) throws IOException {
        theClass();
        methods();
        fields();
        asInTheDocument();
        Due.end("FaceTest");
    }

    /** Every line of the document's face stands in the class as it is, but for the body in place of a semicolon. */
    private static void asInTheDocument() throws IOException {
        String program = Files.readString(PROGRAM);
        int lines = 0;
        for (String line : Files.readAllLines(DOCUMENT)) {
            if (line.startsWith("public final class") || line.startsWith("    public ")) {
                String due = line.replaceFirst("\\);$", ") {");
                Due.is("as in the document: " + due, program.contains("\n" + due + "\n"), true);
                lines++;
            }
        }
        Due.is("lines of the face", lines, 1 + 2 + 1 + FACE.length);
    }

    private static void theClass() {
        Class<?> engine = TableEngine.class;
        Due.is("public and final", engine.getModifiers(), Modifier.PUBLIC | Modifier.FINAL);
        Due.is("no nested class", engine.getDeclaredClasses().length, 0);
        Constructor<?>[] made = engine.getDeclaredConstructors();
        Due.is("one constructor", made.length, 1);
        Due.is("without parameters", made[0].getParameterCount(), 0);
        Due.is("public", made[0].getModifiers(), Modifier.PUBLIC);
    }

    private static void methods() {
        Set<String> face = new TreeSet<>();
        Set<String> publicNames = new HashSet<>();
        Set<String> privateNames = new HashSet<>();
        for (Method m : TableEngine.class.getDeclaredMethods()) {
            if (Modifier.isPublic(m.getModifiers())) {
                face.add(told(m));
                publicNames.add(m.getName());
                Due.is("not static: " + m, Modifier.isStatic(m.getModifiers()), false);
            } else {
                Due.is("private: " + m, Modifier.isPrivate(m.getModifiers()), true);
                privateNames.add(m.getName());
            }
            Due.is("answers no array: " + m, m.getReturnType().isPrimitive(), true);
            Due.is("at most seven parameters: " + m, m.getParameterCount() <= 7, true);
        }
        same("the public methods", face, FACE);
        privateNames.retainAll(publicNames);
        Due.is("private methods with a public name: " + privateNames, privateNames.size(), 0);
    }

    private static String told(Method m) {
        String parameters = Arrays.toString(m.getParameterTypes());
        return m.getReturnType() + " " + m.getName() + "(" + parameters.substring(1, parameters.length() - 1) + ")";
    }

    private static void fields() {
        Set<String> constants = new TreeSet<>();
        int held = 0;
        for (Field f : TableEngine.class.getDeclaredFields()) {
            Class<?> type = f.getType();
            if (Modifier.isPublic(f.getModifiers())) {
                constants.add(type + " " + f.getName());
            } else {
                Due.is("private: " + f, Modifier.isPrivate(f.getModifiers()), true);
            }
            if (Modifier.isStatic(f.getModifiers())) {
                Due.is("final: " + f, Modifier.isFinal(f.getModifiers()), true);
                Due.is("int or long: " + f, type == int.class || type == long.class, true);
            } else {
                held++;
                Class<?> plain = type.isArray() ? type.getComponentType() : type;
                boolean number = plain != float.class && plain != double.class;
                Due.is("of the allowed types: " + f, plain.isPrimitive() && number, true);
            }
        }
        same("the public constants", constants, CONSTANTS);
        Due.is("some forty fields at most", held <= 40, true);
    }

    private static void same(String what, Set<String> got, String[] want) {
        Set<String> due = new TreeSet<>(Arrays.asList(want));
        Due.is(what + ": " + got + ", due are " + due, got.equals(due), true);
    }
}
