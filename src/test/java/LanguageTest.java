import java.io.IOException;
import java.lang.reflect.Array;
import java.lang.reflect.Field;
import java.lang.reflect.Method;
import java.lang.reflect.Modifier;
import java.nio.file.Files;
import java.nio.file.Path;
import java.util.List;
import java.util.Set;
import java.util.regex.Matcher;
import java.util.regex.Pattern;

/**
 * The rules of ../shared/LANGUAGE.md that can be seen from the program's text or from its compiled
 * classes. The text is read where .ci/run stands, in the project's own directory.
 */
public final class LanguageTest {
    private static final Path SOURCE = Path.of("src", "main", "java", "MeasureChoice.java");
    /** What the program never uses: other rules of LANGUAGE.md allow some of it, but with conditions. */
    private static final List<String> NEVER = List.of("\\bpackage\\b", "\\bimport\\b", "->", "::",
            "\\btry\\b", "\\bcatch\\b", "\\bfinally\\b", "\\bsynchronized\\b", "\\bassert\\b",
            "\\binstanceof\\b", "\\bnull\\b", "\\bSystem\\b", "\\bObject\\b", "\\bThread\\b", "Exact\\(",
            "\\bdouble\\b", "\\bfloat\\b", "\\bnative\\b", "\\bstatic \\{", "\\bequals\\(",
            "\\bhashCode\\(", "\\btoString\\(", "\\bprotected\\b", "[^\\x00-\\x7f]", " [/%] ", "[/%]=");
    private static final Set<Class<?>> NUMBERS = Set.of(int.class, boolean.class, int[].class,
            int[][].class);

    /** All calls of a run share room for 7.3 million elements, so hundreds of objects have room. */
    private static final long MOST_ELEMENTS = 10000;

    public static void main(String[] args) throws ReflectiveOperationException, IOException {
        String text = Files.readString(SOURCE);
        String code = text.replaceAll("(?s)/\\*.*?\\*/", "").replaceAll("//[^\n]*", "");
        unusedWords(code);
        thrownAlone(code);
        shortMethods(code);
        classes();
        room();
        Check.end();
    }

    private static void unusedWords(String code) {
        // Texts are left out, as they are not of the language.
        String bare = code.replaceAll("\"[^\"\n]*\"", "\"\"");
        for (String word : NEVER) {
            Matcher found = Pattern.compile(word).matcher(bare);
            Check.same("times that there is " + word, found.results().count(), 0);
        }
    }

    /** Rule 6, as far as this program throws: two classes, each with a written text. */
    private static void thrownAlone(String code) {
        long all = Pattern.compile("\\bthrow\\b").matcher(code).results().count();
        long allowed = Pattern.compile("throw new Illegal(Argument|State)Exception\\(\"[^\"]*\"\\);")
                .matcher(code).results().count();
        Check.same("throw statements as they may be", allowed, all);
    }

    /** Rule 11: some sixty lines; a method starts and ends at its own depth. */
    private static void shortMethods(String code) {
        String[] lines = code.split("\n");
        for (int depth = 4; depth <= 8; depth += 4) {
            int start = -1;
            for (int i = 0; i < lines.length; i++) {
                String indent = " ".repeat(depth);
                if (lines[i].matches(indent + "\\S.*\\) ?(throws .*)?\\{")) {
                    start = i;
                } else if (start >= 0 && lines[i].equals(indent + "}")) {
                    Check.holds("at most sixty lines:" + lines[start], i - start < 60);
                    start = -1;
                }
            }
        }
    }

    private static void classes() {
        Class<?>[] inside = MeasureChoice.class.getDeclaredClasses();
        Check.holds("at most twelve classes", inside.length < 12);
        members(MeasureChoice.class, Set.of(inside));
        for (Class<?> one : inside) {
            int modifiers = one.getModifiers();
            Check.holds(one + " is static", Modifier.isStatic(modifiers));
            Check.fails(one + " is public", Modifier.isPublic(modifiers));
            members(one, Set.of(inside));
        }
    }

    private static void members(Class<?> one, Set<Class<?>> own) {
        int ofObjects = 0;
        for (Field field : one.getDeclaredFields()) {
            boolean isStatic = Modifier.isStatic(field.getModifiers());
            Check.holds(field + " is of a known kind",
                    NUMBERS.contains(field.getType()) || own.contains(field.getType()));
            Check.holds(field + " is a constant of int, or no static one",
                    !isStatic || field.getType() == int.class && Modifier.isFinal(field.getModifiers()));
            ofObjects += isStatic ? 0 : 1;
        }
        Check.holds(one + " has at most twenty fields", ofObjects <= 20);
        for (Method method : one.getDeclaredMethods()) {
            Check.holds(method + " has at most seven parameters", method.getParameterCount() <= 7);
        }
    }

    /** What an object holds is made with it, and calls add nothing to it. */
    private static void room() throws ReflectiveOperationException {
        MeasureChoice x = new MeasureChoice();
        long atFirst = elements(x);
        Check.holds("a new object's elements: " + atFirst, atFirst <= MOST_ELEMENTS);
        MeasureChoice full = Check.greatestHouse();
        Check.budgets(full, 100000, 100000, 100000, 100000);
        full.best(120000);
        full.frontier(4095);
        full.planned(4);
        Check.same("a full object's elements", elements(full), atFirst);
    }

    private static long elements(Object thing) throws ReflectiveOperationException {
        if (thing.getClass().isArray()) {
            return elementsOfRow(thing);
        }
        long sum = 0;
        for (Field field : thing.getClass().getDeclaredFields()) {
            if (!Modifier.isStatic(field.getModifiers())) {
                field.setAccessible(true);
                sum += 1 + (field.getType().isPrimitive() ? 0 : elements(field.get(thing)));
            }
        }
        return sum;
    }

    private static long elementsOfRow(Object row) throws ReflectiveOperationException {
        long sum = Array.getLength(row);
        if (!row.getClass().getComponentType().isPrimitive()) {
            for (int i = 0; i < Array.getLength(row); i++) {
                sum += elements(Array.get(row, i));
            }
        }
        return sum;
    }
}
