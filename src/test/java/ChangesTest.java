import java.util.List;
import java.util.function.Consumer;

/**
 * What an object was asked before counts for nothing: after any two changes it answers as one that
 * had the same changes and was never asked between them.
 */
public final class ChangesTest {
    /** Each kind of change, up and down, on and off, and some that leave all as it is. */
    private static final List<Consumer<MeasureChoice>> CHANGES = List.of(
            x -> x.measure(4, 9),
            x -> x.change(0, 4, 9),
            x -> x.change(0, 5, 5),
            x -> x.change(5, 10000, 10000),
            x -> x.exclude(1, 3, true),
            x -> x.exclude(2, 0, false),
            x -> x.needs(3, 4, true),
            x -> x.needs(5, 1, false),
            x -> x.bonus(3, 4, 5000),
            x -> x.bonus(1, 0, -5000),
            x -> x.bonus(1, 0, 3),
            x -> x.year(0, 100000),
            x -> x.year(0, 0),
            x -> x.year(3, 6));

    public static void main(String[] args) {
        for (int first = 0; first < CHANGES.size(); first++) {
            for (int second = 0; second < CHANGES.size(); second++) {
                String name = "changes " + first + " and " + second;
                Check.same(name, Picture.of(asked(first, second)), Picture.of(unasked(first, second)));
            }
        }
        Check.end();
    }

    private static MeasureChoice house() {
        MeasureChoice x = Check.house(5, 5, 3, 5, 4, 8, 7, 6, 3, 9, 8, 14);
        x.exclude(0, 2, true);
        x.needs(5, 1, true);
        x.bonus(0, 1, 3);
        Check.budgets(x, 5, 4, 9, 0);
        return x;
    }

    private static MeasureChoice unasked(int first, int second) {
        MeasureChoice x = house();
        CHANGES.get(first).accept(x);
        CHANGES.get(second).accept(x);
        return x;
    }

    /** Asked ahead of both changes, and by some calls between them too. */
    private static MeasureChoice asked(int first, int second) {
        MeasureChoice x = house();
        ask(x);
        CHANGES.get(first).accept(x);
        if ((first + second) % 2 == 0) {
            ask(x);
        }
        CHANGES.get(second).accept(x);
        return x;
    }

    private static void ask(MeasureChoice x) {
        x.lawful(3);
        x.told(3, 1);
        x.closure(5);
        x.best(12);
        x.budget(12);
        x.worth(3, 9);
        x.frontier(2);
        for (int years = 1; years <= 4; years++) {
            x.plan(years, years - 1);
            x.planned(years);
        }
    }
}
