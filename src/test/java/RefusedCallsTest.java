import java.util.function.Consumer;
import java.util.function.IntConsumer;
import java.util.function.Supplier;

/**
 * 'In all calls illegal argument: a number is out of its bounds, there is no such measure. Illegal
 * state: as told. Of several exceptions the one named first is thrown; a call that throws changes
 * nothing.' Every wrong call is made on objects with no, one, some and all measures; then the object
 * must answer all calls as one on which no wrong call was ever made. A picture is taken after some
 * wrong calls together; so of calls that could undo each other the one that sets something is last.
 */
public final class RefusedCallsTest {
    private static final int LEAST = Integer.MIN_VALUE;
    private static final int MOST = Integer.MAX_VALUE;
    /** Below and above all numbers of measures; 32 and 64 are shifts that Java wraps around to 0. */
    private static final int[] NEVER_MEASURES = {LEAST, -64, -32, -31, -12, -2, -1, 12, 13, 31, 32, 33,
        64, 65536, MOST};
    private static final int[] WRONG_COSTS = {LEAST, -10000, -1, 0, 10001, 65537, MOST};
    private static final int[] WRONG_GAINS = {LEAST, -10000, -1, 10001, 65536, MOST};
    private static final int[] WRONG_BONUSES = {LEAST, -10000, -5001, 5001, 10000, 65536, MOST};
    private static final int[] WRONG_BUDGETS = {LEAST, -100000, -1, 100001, 1000000, MOST};
    private static final int[] BELOW_ZERO = {LEAST, LEAST + 1, -4096, -1};

    /** A picture takes up to some 360 of the 512 calls for which an object is promised. */
    private static final int MOST_REFUSED = 60;

    private final int count;
    private final Supplier<MeasureChoice> maker;
    private final String due;
    private MeasureChoice fresh;
    /** What an object has worked out for earlier calls must not change either. */
    private MeasureChoice asked;
    private int refused;

    private RefusedCallsTest(int count, Supplier<MeasureChoice> maker) {
        this.count = count;
        this.maker = maker;
        this.due = Picture.of(maker.get());
    }

    public static void main(String[] args) {
        new RefusedCallsTest(0, MeasureChoice::new).refuseAll();
        for (int count : new int[] {0, 1, 2, 3, 6, 7, 11, 12}) {
            new RefusedCallsTest(count, () -> house(count)).refuseAll();
        }
        Check.end();
    }

    /** Of each kind of state something, as far as there are measures for it. */
    private static MeasureChoice house(int count) {
        MeasureChoice x = new MeasureChoice();
        for (int m = 0; m < count; m++) {
            x.measure(3 + 7 * m % 5, 5 + m * m % 11);
        }
        for (int m = 1; m < count; m++) {
            x.bonus(m, m - 1, 4 - m);
        }
        if (count > 2) {
            x.exclude(0, 2, true);
            x.needs(count - 1, 1, true);
        }
        Check.budgets(x, 5, 4, 0, 100000);
        return x;
    }

    private void refuseAll() {
        sentence("2: measure: Illegal argument; illegal state: there are 12", this::measure);
        sentence("3: change: Illegal argument", this::change);
        sentence("4: exclude: Illegal argument: also if both are one", this::exclude);
        sentence("5: needs: Illegal argument: also if both are one", this::needs);
        sentence("6: bonus: Illegal argument: also if both are one", this::bonus);
        sentence("7: lawful: Illegal argument: a bit of no measure is set, or below 0", this::lawful);
        sentence("8: told: Illegal argument: as lawful(), and what", this::told);
        sentence("9: closure: Illegal argument", this::closure);
        sentence("10: best: Illegal argument: below 0", this::best);
        sentence("12: worth: one is below 0, or both together are above 1000000", this::worth);
        sentence("13: frontier: Illegal argument: k is below 0", this::frontier);
        sentence("14: year: Illegal argument", this::year);
        sentence("15: plan: Illegal argument: also if k is not below years", this::plan);
        sentence("16: planned: Illegal argument", this::planned);
    }

    private void sentence(String words, Check.Call test) {
        Check.sentence(words + ", with " + count + " measures", () -> {
            startAnew();
            test.run();
            compare();
        });
    }

    private void startAnew() {
        fresh = maker.get();
        asked = maker.get();
        asked.best(20);
        asked.planned(3);
        refused = 0;
    }

    private void compare() {
        Check.same("the object after the wrong calls", Picture.of(fresh), due);
        Check.same("the asked object after the wrong calls", Picture.of(asked), due);
    }

    private void refused(String call, Consumer<MeasureChoice> made) {
        Check.illegalArgument(call, () -> made.accept(fresh));
        Check.illegalArgument(call, () -> made.accept(asked));
        refused++;
        if (refused == MOST_REFUSED) {
            compare();
            startAnew();
        }
    }

    /** Tries all numbers that are no measure's: those that never are, and the next ones to come. */
    private void eachWrongMeasure(IntConsumer test) {
        for (int wrong : NEVER_MEASURES) {
            test.accept(wrong);
        }
        for (int wrong = count; wrong < 12; wrong++) {
            test.accept(wrong);
        }
    }

    private void measure() {
        for (int cost : WRONG_COSTS) {
            refused("measure(" + cost + ", 5)", x -> x.measure(cost, 5));
            refused("measure(" + cost + ", -1)", x -> x.measure(cost, -1));
        }
        for (int gain : WRONG_GAINS) {
            refused("measure(5, " + gain + ")", x -> x.measure(5, gain));
        }
        if (count == 12) {
            Check.illegalState("measure(1, 0)", () -> fresh.measure(1, 0));
            Check.illegalState("measure(10000, 10000)", () -> asked.measure(10000, 10000));
        }
    }

    private void change() {
        eachWrongMeasure(m -> refused("change(" + m + ", 1, 1)", x -> x.change(m, 1, 1)));
        for (int m = 0; m < count; m++) {
            int measure = m;
            for (int cost : WRONG_COSTS) {
                refused("change(" + m + ", " + cost + ", 9)", x -> x.change(measure, cost, 9));
            }
            for (int gain : WRONG_GAINS) {
                refused("change(" + m + ", 9, " + gain + ")", x -> x.change(measure, 9, gain));
            }
        }
    }

    private void exclude() {
        eachWrongMeasure(m -> {
            refused("exclude(" + m + ", 0, false)", x -> x.exclude(m, 0, false));
            refused("exclude(2, " + m + ", false)", x -> x.exclude(2, m, false));
            refused("exclude(" + m + ", 0, true)", x -> x.exclude(m, 0, true));
            refused("exclude(0, " + m + ", true)", x -> x.exclude(0, m, true));
            refused("exclude(" + m + ", " + m + ", true)", x -> x.exclude(m, m, true));
        });
        for (int m = 0; m < count; m++) {
            int one = m;
            refused("exclude(" + m + ", " + m + ", false)", x -> x.exclude(one, one, false));
            refused("exclude(" + m + ", " + m + ", true)", x -> x.exclude(one, one, true));
        }
    }

    private void needs() {
        eachWrongMeasure(m -> {
            refused("needs(" + m + ", 1, false)", x -> x.needs(m, 1, false));
            refused("needs(1, " + m + ", false)", x -> x.needs(1, m, false));
            refused("needs(" + m + ", 0, true)", x -> x.needs(m, 0, true));
            refused("needs(0, " + m + ", true)", x -> x.needs(0, m, true));
            refused("needs(" + m + ", " + m + ", true)", x -> x.needs(m, m, true));
        });
        for (int m = 0; m < count; m++) {
            int one = m;
            refused("needs(" + m + ", " + m + ", false)", x -> x.needs(one, one, false));
            refused("needs(" + m + ", " + m + ", true)", x -> x.needs(one, one, true));
        }
    }

    private void bonus() {
        eachWrongMeasure(m -> {
            refused("bonus(" + m + ", 0, 7)", x -> x.bonus(m, 0, 7));
            refused("bonus(0, " + m + ", 7)", x -> x.bonus(0, m, 7));
            refused("bonus(" + m + ", " + m + ", 7)", x -> x.bonus(m, m, 7));
        });
        for (int m = 0; m < count; m++) {
            int one = m;
            refused("bonus(" + m + ", " + m + ", 0)", x -> x.bonus(one, one, 0));
            refused("bonus(" + m + ", " + m + ", 7)", x -> x.bonus(one, one, 7));
        }
        for (int amount : WRONG_BONUSES) {
            refused("bonus(0, 1, " + amount + ")", x -> x.bonus(0, 1, amount));
            refused("bonus(1, 0, " + amount + ")", x -> x.bonus(1, 0, amount));
            refused("bonus(0, 0, " + amount + ")", x -> x.bonus(0, 0, amount));
        }
    }

    /** Each bit of no measure alone and with all bits of measures; bit 31 is below 0. */
    private void eachWrongSet(IntConsumer test) {
        for (int bit = count; bit < 32; bit++) {
            test.accept(1 << bit);
            test.accept(1 << bit | (1 << count) - 1);
        }
        for (int set : BELOW_ZERO) {
            test.accept(set);
        }
        test.accept(MOST);
    }

    private void lawful() {
        eachWrongSet(set -> refused("lawful(" + set + ")", x -> x.lawful(set)));
    }

    private void told() {
        eachWrongSet(set -> {
            refused("told(" + set + ", 0)", x -> x.told(set, 0));
            refused("told(" + set + ", 1)", x -> x.told(set, 1));
        });
        for (int what : new int[] {LEAST, -2, -1, 2, 3, 256, 65536, MOST}) {
            refused("told(0, " + what + ")", x -> x.told(0, what));
            refused("told(all, " + what + ")", x -> x.told((1 << count) - 1, what));
            refused("told(-1, " + what + ")", x -> x.told(-1, what));
        }
    }

    private void closure() {
        eachWrongMeasure(m -> refused("closure(" + m + ")", x -> x.closure(m)));
    }

    private void best() {
        for (int budget : BELOW_ZERO) {
            refused("best(" + budget + ")", x -> x.best(budget));
        }
    }

    private void worth() {
        int[][] wrong = {{-1, 0}, {0, -1}, {-1, -1}, {-1, 1000001}, {1000001, -1}, {-1, 1}, {1, -1},
            {LEAST, 0}, {0, LEAST}, {LEAST, LEAST}, {LEAST, MOST}, {MOST, LEAST},
            {0, 1000001}, {1000001, 0}, {1, 1000000}, {1000000, 1}, {500000, 500001},
            {1000000, 1000000}, {MOST, 0}, {0, MOST}, {MOST, 1}, {1, MOST}, {MOST, MOST},
            {1 << 30, 1 << 30}, {MOST, 1000000}, {1000000, MOST}};
        for (int[] pair : wrong) {
            refused("worth(" + pair[0] + ", " + pair[1] + ")", x -> x.worth(pair[0], pair[1]));
        }
    }

    private void frontier() {
        for (int k : BELOW_ZERO) {
            refused("frontier(" + k + ")", x -> x.frontier(k));
        }
    }

    private void year() {
        for (int year : new int[] {LEAST, -4, -1, 4, 5, 32, MOST}) {
            refused("year(" + year + ", 7)", x -> x.year(year, 7));
            refused("year(" + year + ", -1)", x -> x.year(year, -1));
        }
        for (int y = 0; y < 4; y++) {
            int year = y;
            for (int budget : WRONG_BUDGETS) {
                refused("year(" + year + ", " + budget + ")", x -> x.year(year, budget));
            }
        }
    }

    private void plan() {
        for (int years : new int[] {LEAST, -1, 0, 5, 6, MOST}) {
            for (int k : new int[] {LEAST, -1, 0, 1, 3, 4, 5, MOST}) {
                refused("plan(" + years + ", " + k + ")", x -> x.plan(years, k));
            }
        }
        for (int y = 1; y <= 4; y++) {
            int years = y;
            for (int k : new int[] {LEAST, -4, -1, years, years + 1, 4, 5, MOST}) {
                refused("plan(" + years + ", " + k + ")", x -> x.plan(years, k));
            }
        }
    }

    private void planned() {
        for (int years : new int[] {LEAST, -4, -1, 0, 5, 6, MOST}) {
            refused("planned(" + years + ")", x -> x.planned(years));
        }
    }
}
