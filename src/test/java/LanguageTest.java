import java.io.IOException;
import java.lang.reflect.Executable;
import java.lang.reflect.Field;
import java.lang.reflect.Method;
import java.lang.reflect.Modifier;
import java.nio.file.Files;
import java.nio.file.Path;
import java.util.Arrays;
import java.util.List;
import java.util.Set;
import java.util.TreeSet;
import java.util.stream.Collectors;

/** The face is the document's, and the program keeps to what can be told of ../shared/LANGUAGE.md by looking at it. */
public final class LanguageTest {
    private static final String INDEX = " IndexOutOfBoundsException";
    private static final String ARGUMENT = " IllegalArgumentException";
    private static final String STATE = " IllegalStateException";
    private static final List<String> FACE = List.of(
        "int ground(int,int,int,int)" + INDEX + ARGUMENT,
        "int desk(int,int,int,int,boolean)" + INDEX + ARGUMENT + STATE,
        "int state(int,int)" + INDEX + ARGUMENT,
        "int wire(int,int,boolean)" + INDEX + ARGUMENT + STATE,
        "int shell(int)" + INDEX,
        "int mend(int,int)" + INDEX + STATE,
        "int move(int,int)" + INDEX + ARGUMENT,
        "int birds(int,int,int)" + INDEX + ARGUMENT,
        "int write(int,int,int,int,int,boolean,int)" + INDEX + ARGUMENT + STATE,
        "int fly(int)" + INDEX + STATE,
        "int turn(int)" + INDEX,
        "int capture(int)" + ARGUMENT,
        "int post(int)" + INDEX,
        "int jam(int)" + ARGUMENT,
        "int pass(int)" + ARGUMENT + STATE,
        "int call()",
        "int ofCell(int,int)" + INDEX + ARGUMENT,
        "int course(int,int,int)" + INDEX + ARGUMENT,
        "boolean sees(int,int)" + INDEX,
        "int ofDesk(int,int)" + INDEX + ARGUMENT,
        "int ofBirds(int,int)" + INDEX,
        "int ofWire(int,int)" + INDEX + ARGUMENT,
        "int ofMessage(int,int)" + INDEX + ARGUMENT,
        "int belief(int,int,int)" + INDEX + ARGUMENT,
        "int diary(int,int,int)" + INDEX + ARGUMENT,
        "double right(int)" + INDEX,
        "int field(int)" + ARGUMENT,
        "int route(int,int)" + INDEX,
        "String tell(int)" + INDEX,
        "int would(int)" + INDEX,
        "int delay(int,int,int,int)" + INDEX + ARGUMENT,
        "int best(int)" + INDEX,
        "int heard(int)" + INDEX,
        "int weak(int)" + INDEX,
        "boolean isSound()",
        "long digest()");

    public static void main(String[] args) throws IOException {
        face();
        classes();
        source();
        Due.end("LanguageTest");
    }

    private static void face() {
        Set<String> due = new TreeSet<>(FACE);
        Set<String> got = new TreeSet<>();
        for (Method method : Fieldwire.class.getDeclaredMethods()) {
            if (!Modifier.isPrivate(method.getModifiers())) {
                Due.is(method + " is public alone", Modifier.toString(method.getModifiers()), "public");
                got.add(method.getReturnType().getSimpleName() + " " + method.getName() + "("
                        + Arrays.stream(method.getParameterTypes()).map(Class::getName).collect(Collectors.joining(","))
                        + ")" + Arrays.stream(method.getExceptionTypes()).map(t -> " " + t.getSimpleName())
                        .collect(Collectors.joining()));
            }
        }
        Due.is("the face", got, due);
        Due.is("the class", Modifier.toString(Fieldwire.class.getModifiers()), "public final");
        Due.is("constructors", Fieldwire.class.getDeclaredConstructors().length, 1);
        Due.is("public constructors", Fieldwire.class.getConstructors().length, 1);
        for (Field field : Fieldwire.class.getDeclaredFields()) {
            Due.is(field + " is private", Modifier.isPrivate(field.getModifiers()), true);
        }
    }

    private static void classes() {
        Set<String> faceNames = FACE.stream().map(f -> f.substring(f.indexOf(' ') + 1, f.indexOf('(')))
                .collect(Collectors.toSet());
        Class<?>[] inside = Fieldwire.class.getDeclaredClasses();
        Due.is("twelve classes at most", inside.length + 1 <= 12, true);
        for (Class<?> one : inside) {
            Due.is(one + " is static", Modifier.isStatic(one.getModifiers()), true);
            Due.is(one + " is not public", Modifier.isPublic(one.getModifiers()), false);
            oneClass(one, faceNames);
        }
        oneClass(Fieldwire.class, faceNames);
    }

    private static void oneClass(Class<?> one, Set<String> faceNames) {
        int fields = 0;
        for (Field field : one.getDeclaredFields()) {
            boolean isStatic = Modifier.isStatic(field.getModifiers());
            fields += isStatic ? 0 : 1;
            Due.is(field + " is final if it is static", !isStatic || Modifier.isFinal(field.getModifiers()), true);
        }
        Due.is(one + " has twenty fields at most", fields <= 20, true);
        for (Method method : one.getDeclaredMethods()) {
            boolean isFace = one == Fieldwire.class && Modifier.isPublic(method.getModifiers());
            Due.is(method + " has no name of the face", isFace || !faceNames.contains(method.getName()), true);
            Due.is(method + " takes seven at most", parameters(method) <= 7, true);
            Due.is(method + " is no lambda's", method.isSynthetic() && !one.isEnum(), false);
        }
    }

    private static int parameters(Executable method) {
        return method.getParameterCount();
    }

    private static void source() throws IOException {
        List<String> lines = Files.readAllLines(Path.of("src/main/java/Fieldwire.java"));
        String[] never = {"->", "::", "catch", "finally", "synchronized", "assert", "Exact", "Object", "instanceof",
            "System.", "Arrays.", "NullPointer", "ArrayIndex", "static {", "@", "hashCode", ".equals", "toString(this"};
        int length = 0;
        String head = "";
        for (String line : lines) {
            boolean isComment = line.trim().startsWith("//") || line.trim().startsWith("*")
                    || line.trim().startsWith("/*");
            for (String word : never) {
                Due.is("'" + word + "' in: " + line, !isComment && line.contains(word), false);
            }
            Due.is("signs of: " + line, line.chars().allMatch(c -> c >= 32 && c < 127), true);
            if (line.startsWith("import")) {
                Due.is("import", line, "import java.util.ArrayList;");
            }
            if (line.matches("( {4}| {8})[a-zA-Z].*\\).* ?\\{")) {
                length = 0;
                head = line.trim();
            }
            length++;
            if (line.matches("( {4}| {8})\\}")) {
                Due.is("sixty lines at most: " + head, length <= 60, true);
            }
        }
    }
}
