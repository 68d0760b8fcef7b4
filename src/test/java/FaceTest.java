import java.io.IOException;
import java.lang.reflect.Constructor;
import java.lang.reflect.Field;
import java.lang.reflect.Method;
import java.lang.reflect.Modifier;
import java.nio.file.Files;
import java.nio.file.Path;
import java.util.ArrayList;
import java.util.Arrays;
import java.util.HashSet;
import java.util.List;
import java.util.Set;
import java.util.TreeSet;

/** The public face is the one of the document, and there is nothing beside it. */
public final class FaceTest {
    private static final String ARGUMENT = " throws IllegalArgumentException";
    private static final Path DOCUMENT = Path.of("..", "shared", "DOC.md");
    private static final Path SOURCE = Path.of("src", "main", "java", "MeasureChoice.java");
    private static final Set<String> METHODS = Set.of(
            "int measure(int, int)" + ARGUMENT + ", IllegalStateException",
            "void change(int, int, int)" + ARGUMENT,
            "boolean exclude(int, int, boolean)" + ARGUMENT,
            "boolean needs(int, int, boolean)" + ARGUMENT,
            "int bonus(int, int, int)" + ARGUMENT,
            "boolean lawful(int)" + ARGUMENT,
            "int told(int, int)" + ARGUMENT,
            "int closure(int)" + ARGUMENT,
            "int best(int)" + ARGUMENT,
            "int budget(int)",
            "int worth(int, int)" + ARGUMENT,
            "int frontier(int)" + ARGUMENT,
            "int year(int, int)" + ARGUMENT,
            "int plan(int, int)" + ARGUMENT,
            "int planned(int)" + ARGUMENT);

    public static void main(String[] args) throws IOException {
        Check.same("the class is", MeasureChoice.class.getModifiers(), Modifier.PUBLIC | Modifier.FINAL);
        constructors();
        fields();
        methods();
        wordByWord();
        headings();
        Check.end();
    }

    /** The names of parameters and the order of the calls too, which the compiled class lacks. */
    private static void wordByWord() throws IOException {
        List<String> due = publicLines(DOCUMENT);
        Check.same("lines of the document's face", due.size(), METHODS.size() + 3);
        Check.same("the public lines", String.join("\n", publicLines(SOURCE)), String.join("\n", due));
    }

    private static List<String> publicLines(Path file) throws IOException {
        List<String> found = new ArrayList<>();
        for (String line : Files.readAllLines(file)) {
            if (line.strip().startsWith("public ")) {
                found.add(line.strip().replaceAll(" ?[;{]$", ""));
            }
        }
        return found;
    }

    /** What the interface says ahead of a group of calls. */
    private static void headings() throws IOException {
        String text = Files.readString(SOURCE);
        Check.holds("---- sets, ahead of lawful",
                text.contains("// ---- sets\n\n    public boolean lawful("));
        Check.holds("---- plans, ahead of year", text.contains("// ---- plans\n\n    public int year("));
    }

    private static void constructors() {
        Constructor<?>[] all = MeasureChoice.class.getDeclaredConstructors();
        Check.same("constructors", all.length, 1);
        Check.same("the constructor's parameters", all[0].getParameterCount(), 0);
        Check.holds("the constructor is public", Modifier.isPublic(all[0].getModifiers()));
    }

    private static void fields() {
        for (Field field : MeasureChoice.class.getDeclaredFields()) {
            boolean none = field.getName().equals("NONE");
            int due = Modifier.PUBLIC | Modifier.STATIC | Modifier.FINAL;
            if (none) {
                Check.same("NONE is", field.getModifiers(), due);
            } else {
                Check.holds(field.getName() + " is private", Modifier.isPrivate(field.getModifiers()));
            }
        }
    }

    private static void methods() {
        Set<String> found = new TreeSet<>();
        Set<String> names = new HashSet<>();
        for (Method method : MeasureChoice.class.getDeclaredMethods()) {
            if (Modifier.isPublic(method.getModifiers())) {
                found.add(told(method));
                names.add(method.getName());
            }
        }
        for (Method method : MeasureChoice.class.getDeclaredMethods()) {
            if (!Modifier.isPublic(method.getModifiers())) {
                Check.holds(method.getName() + " is private", Modifier.isPrivate(method.getModifiers()));
                Check.fails(method.getName() + " is a public name", names.contains(method.getName()));
            }
        }
        Set<String> missing = new TreeSet<>(METHODS);
        missing.removeAll(found);
        found.removeAll(METHODS);
        Check.same("missing methods " + missing, missing.size(), 0);
        Check.same("other public methods " + found, found.size(), 0);
    }

    private static String told(Method method) {
        String thrown = names(method.getExceptionTypes());
        return method.getReturnType().getSimpleName() + " " + method.getName()
                + "(" + names(method.getParameterTypes()) + ")"
                + (thrown.isEmpty() ? "" : " throws " + thrown);
    }

    private static String names(Class<?>[] types) {
        return String.join(", ", Arrays.stream(types).map(Class::getSimpleName).toList());
    }
}
