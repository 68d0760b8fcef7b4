import java.io.IOException;
import java.lang.reflect.Method;
import java.lang.reflect.Modifier;
import java.nio.file.Files;
import java.nio.file.Path;

/**
 * README.md tells the truth: each call of its example answers the number that is written behind it,
 * and its table of calls has every public one. The text is read where .ci/run stands.
 */
public final class ReadmeTest {
    private static String readme = "";

    public static void main(String[] args) throws IOException {
        readme = Files.readString(Path.of("README.md"));
        example();
        tableHasAllCalls();
        Check.end();
    }

    private static void example() {
        MeasureChoice house = new MeasureChoice();
        answers("house.measure(4000, 900);", house.measure(4000, 900), 0);
        answers("house.measure(6000, 1100);", house.measure(6000, 1100), 1);
        answers("house.measure(3000, 700);", house.measure(3000, 700), 2);
        written("house.needs(heater, walls, true);");
        house.needs(2, 1, true);
        written("house.bonus(roof, walls, 150);");
        house.bonus(0, 1, 150);
        answers("house.best(9999);", house.best(9999), 6);
        answers("house.told(6, 1);", house.told(6, 1), 1800);
        answers("house.budget(1500);", house.budget(1500), 9000);
        answers("house.worth(6000, 4000);", house.worth(6000, 4000), 1050);
        answers("house.frontier(1);", house.frontier(1), 1);
        written("house.year(0, 5000);");
        house.year(0, 5000);
        written("house.year(1, 5000);");
        house.year(1, 5000);
        answers("house.plan(2, 1);", house.plan(2, 1), 3);
        answers("house.planned(2);", house.planned(2), 3050);
    }

    private static void answers(String call, int got, int due) {
        Check.same(call, got, due);
        String line = lineOf(call);
        Check.holds(call + " stands in README.md with " + due + ": " + line,
                line.matches(".*//.*\\b" + due + "\\b.*"));
    }

    private static void written(String call) {
        Check.fails(call + " is missing in README.md", lineOf(call).isEmpty());
    }

    private static String lineOf(String call) {
        return readme.lines().filter(line -> line.contains(call)).findFirst().orElse("");
    }

    private static void tableHasAllCalls() {
        for (Method method : MeasureChoice.class.getDeclaredMethods()) {
            if (Modifier.isPublic(method.getModifiers())) {
                Check.holds("the table has " + method.getName(),
                        readme.contains("\n| `" + method.getName() + "("));
            }
        }
    }
}
