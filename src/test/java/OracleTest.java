import java.util.ArrayList;
import java.util.List;
import java.util.Random;

/**
 * Long runs of calls, good and bad ones, each answer held against a slow model that follows the
 * document's words one by one. In half of the runs the numbers are small, so that equal costs and
 * gains are frequent; in the others they stand at the bounds of the document.
 */
public final class OracleTest {
    private static final int RUNS = 600;
    private static final int CALLS = 120;
    private static final int[] STRANGE = {Integer.MIN_VALUE, -5001, -1, 4, 5, 12, 4096, 5001, 10001,
        100001, 1000001, Integer.MAX_VALUE};
    private static final int[] COSTS = {1, 2, 4999, 5000, 5001, 9999, 10000};
    private static final int[] GAINS = {0, 1, 4999, 5000, 5001, 9999, 10000};
    private static final int[] BONUSES = {-5000, -4999, -1, 0, 1, 4999, 5000};
    private static final int[] BUDGETS = {0, 1, 9999, 10000, 10001, 15000, 20000, 59999, 60000, 119999,
        120000, 500000, 999999, 1000000};
    private static final int[] YEAR_BUDGETS = {0, 1, 4999, 5000, 9999, 10000, 10001, 20000, 100000};

    private final Random random;
    private final Model model = new Model();
    private final MeasureChoice choice = new MeasureChoice();
    private final int most;
    private final boolean atBounds;
    private final String name;

    private OracleTest(int seed) {
        random = new Random(seed);
        name = "run " + seed + ": ";
        // Mostly small houses, since the model looks at all pairs of sets.
        most = seed % 60 < 2 ? 12 : 2 + random.nextInt(6);
        atBounds = seed % 2 == 1;
    }

    public static void main(String[] args) {
        for (int seed = 0; seed < RUNS; seed++) {
            new OracleTest(seed).run();
        }
        Check.end();
    }

    private void run() {
        while (model.count < most) {
            oneCall(0);
        }
        for (int i = 0; i < CALLS; i++) {
            oneCall(random.nextInt(24));
        }
        wholeFrontier();
    }

    private void wholeFrontier() {
        List<Integer> due = model.unbeaten();
        for (int k = 0; k <= due.size(); k++) {
            int set = k < due.size() ? due.get(k) : MeasureChoice.NONE;
            Check.same(name + "frontier(" + k + ")", choice.frontier(k), set);
        }
    }

    private int odd(int usual) {
        return random.nextInt(40) == 0 ? STRANGE[random.nextInt(STRANGE.length)] : usual;
    }

    private int someMeasure() {
        return odd(random.nextInt(Math.max(1, model.count)));
    }

    private int someSet() {
        return odd(random.nextInt(1 << model.count));
    }

    private int either(int small, int[] bounds) {
        return odd(atBounds ? bounds[random.nextInt(bounds.length)] : small);
    }

    private int someCost() {
        return either(1 + random.nextInt(6), COSTS);
    }

    private int someGain() {
        return either(random.nextInt(8), GAINS);
    }

    private int someBonus() {
        return either(random.nextInt(13) - 6, BONUSES);
    }

    private int someBudget() {
        return either(random.nextInt(4 * model.count + 3), BUDGETS);
    }

    private int someYearBudget() {
        return either(random.nextInt(12), YEAR_BUDGETS);
    }

    /** Just what a set gains, or one beside it. */
    private int someGainOfASet() {
        return odd(model.gains(random.nextInt(1 << model.count)) + random.nextInt(3) - 1);
    }

    private void oneCall(int kind) {
        int a = someMeasure();
        int b = someMeasure();
        boolean on = random.nextInt(3) != 0;
        switch (kind) {
            case 0 -> measure(someCost(), someGain());
            case 1, 2 -> change(a, someCost(), someGain());
            case 3, 4 -> exclude(a, b, on && random.nextBoolean());
            case 5, 6 -> needs(a, b, on && random.nextBoolean());
            case 7, 8, 9 -> bonus(a, b, someBonus());
            case 10, 11, 12, 13 -> year(odd(random.nextInt(4)), someYearBudget());
            case 14 -> lawful(someSet());
            case 15 -> told(someSet(), odd(random.nextInt(2)));
            case 16 -> closure(a);
            case 17, 18 -> best(someBudget());
            case 19 -> budget(someGainOfASet());
            case 20 -> worth(someBudget(), someBudget());
            case 21 -> frontier(odd(random.nextInt(8)));
            case 22 -> plan(odd(1 + random.nextInt(4)), odd(random.nextInt(4)));
            default -> planned(odd(1 + random.nextInt(4)));
        }
    }

    private void same(String call, Check.Asked asked, long due) {
        Check.same(name + call, Check.answer(asked), due);
    }

    private void measure(int cost, int gain) {
        long due = model.costAndGain(cost, gain) ? model.count : Check.ILLEGAL_ARGUMENT;
        if (due >= 0 && model.count == 12) {
            due = Check.ILLEGAL_STATE;
        }
        if (due >= 0 && model.count == most) {
            return;
        }
        same("measure(" + cost + ", " + gain + ")", () -> choice.measure(cost, gain), due);
        if (due >= 0) {
            model.cost[model.count] = cost;
            model.gain[model.count] = gain;
            model.count++;
        }
    }

    private void change(int m, int cost, int gain) {
        boolean good = model.has(m) && model.costAndGain(cost, gain);
        same("change(" + m + ", " + cost + ", " + gain + ")", () -> {
            choice.change(m, cost, gain);
            return 0;
        }, good ? 0 : Check.ILLEGAL_ARGUMENT);
        if (good) {
            model.cost[m] = cost;
            model.gain[m] = gain;
        }
    }

    private void exclude(int m, int o, boolean on) {
        boolean good = model.pair(m, o);
        same("exclude(" + m + ", " + o + ", " + on + ")", () -> choice.exclude(m, o, on) ? 1 : 0,
                !good ? Check.ILLEGAL_ARGUMENT : model.excludes[m][o] ? 1 : 0);
        if (good) {
            model.excludes[m][o] = on;
            model.excludes[o][m] = on;
        }
    }

    private void needs(int m, int o, boolean on) {
        boolean good = model.pair(m, o);
        same("needs(" + m + ", " + o + ", " + on + ")", () -> choice.needs(m, o, on) ? 1 : 0,
                !good ? Check.ILLEGAL_ARGUMENT : model.needs[m][o] ? 1 : 0);
        if (good) {
            model.needs[m][o] = on;
        }
    }

    private void bonus(int m, int o, int amount) {
        boolean good = model.pair(m, o) && amount >= -5000 && amount <= 5000;
        same("bonus(" + m + ", " + o + ", " + amount + ")", () -> choice.bonus(m, o, amount),
                good ? model.bonus[m][o] : Check.ILLEGAL_ARGUMENT);
        if (good) {
            model.bonus[m][o] = amount;
            model.bonus[o][m] = amount;
        }
    }

    private void lawful(int set) {
        same("lawful(" + set + ")", () -> choice.lawful(set) ? 1 : 0,
                !model.isSet(set) ? Check.ILLEGAL_ARGUMENT : model.lawful(set) ? 1 : 0);
    }

    private void told(int set, int what) {
        long due = Check.ILLEGAL_ARGUMENT;
        if (model.isSet(set) && what == 0) {
            due = model.costs(set);
        } else if (model.isSet(set) && what == 1) {
            due = model.gains(set);
        }
        same("told(" + set + ", " + what + ")", () -> choice.told(set, what), due);
    }

    private void closure(int m) {
        same("closure(" + m + ")", () -> choice.closure(m),
                model.has(m) ? model.closure(m) : Check.ILLEGAL_ARGUMENT);
    }

    private void best(int budget) {
        same("best(" + budget + ")", () -> choice.best(budget),
                budget >= 0 ? model.best(budget) : Check.ILLEGAL_ARGUMENT);
    }

    private void budget(int gain) {
        same("budget(" + gain + ")", () -> choice.budget(gain), model.budget(gain));
    }

    private void worth(int budget, int more) {
        boolean good = budget >= 0 && more >= 0 && (long) budget + more <= 1000000;
        same("worth(" + budget + ", " + more + ")", () -> choice.worth(budget, more), good
                ? model.gains(model.best(budget + more)) - model.gains(model.best(budget))
                : Check.ILLEGAL_ARGUMENT);
    }

    private void frontier(int k) {
        long due = Check.ILLEGAL_ARGUMENT;
        if (k >= 0) {
            List<Integer> all = model.unbeaten();
            due = k < all.size() ? all.get(k) : MeasureChoice.NONE;
        }
        same("frontier(" + k + ")", () -> choice.frontier(k), due);
    }

    private void year(int year, int budget) {
        boolean good = year >= 0 && year < 4 && budget >= 0 && budget <= 100000;
        same("year(" + year + ", " + budget + ")", () -> choice.year(year, budget),
                good ? model.years[year] : Check.ILLEGAL_ARGUMENT);
        if (good) {
            model.years[year] = budget;
        }
    }

    private void plan(int years, int k) {
        boolean good = years >= 1 && years <= 4 && k >= 0 && k < years;
        same("plan(" + years + ", " + k + ")", () -> choice.plan(years, k),
                good ? model.plan(years)[k] : Check.ILLEGAL_ARGUMENT);
    }

    private void planned(int years) {
        boolean good = years >= 1 && years <= 4;
        same("planned(" + years + ")", () -> choice.planned(years),
                good ? model.gainOfPlan(model.plan(years)) : Check.ILLEGAL_ARGUMENT);
    }

    /** The document's words, without any thought of speed. */
    private static final class Model {
        int count;
        final int[] cost = new int[12];
        final int[] gain = new int[12];
        final boolean[][] excludes = new boolean[12][12];
        final boolean[][] needs = new boolean[12][12];
        final int[][] bonus = new int[12][12];
        final int[] years = new int[4];
        private int[] bestPlan;

        boolean has(int m) {
            return m >= 0 && m < count;
        }

        boolean pair(int m, int o) {
            return has(m) && has(o) && m != o;
        }

        boolean isSet(int set) {
            return set >= 0 && set < 1 << count;
        }

        boolean costAndGain(int c, int g) {
            return c >= 1 && c <= 10000 && g >= 0 && g <= 10000;
        }

        private static boolean in(int set, int m) {
            return (set & 1 << m) != 0;
        }

        boolean lawful(int set) {
            for (int m = 0; m < count; m++) {
                for (int o = 0; o < count; o++) {
                    if (in(set, m) && in(set, o) && excludes[m][o]
                            || in(set, m) && needs[m][o] && !in(set, o)) {
                        return false;
                    }
                }
            }
            return true;
        }

        int costs(int set) {
            int sum = 0;
            for (int m = 0; m < count; m++) {
                sum += in(set, m) ? cost[m] : 0;
            }
            return sum;
        }

        int gains(int set) {
            int sum = 0;
            for (int m = 0; m < count; m++) {
                sum += in(set, m) ? gain[m] : 0;
                for (int o = m + 1; o < count; o++) {
                    sum += in(set, m) && in(set, o) ? bonus[m][o] : 0;
                }
            }
            return sum;
        }

        /** The least of all sets that have the measure and whatever those in it need. */
        int closure(int measure) {
            int all = (1 << count) - 1;
            for (int set = 0; set < 1 << count; set++) {
                boolean closed = in(set, measure);
                for (int m = 0; m < count; m++) {
                    for (int o = 0; o < count; o++) {
                        closed &= !(in(set, m) && needs[m][o] && !in(set, o));
                    }
                }
                if (closed) {
                    all &= set;
                }
            }
            return all;
        }

        int best(int budget) {
            int found = 0;
            for (int set = 0; set < 1 << count; set++) {
                if (lawful(set) && costs(set) <= budget) {
                    int more = gains(set) - gains(found);
                    if (more > 0 || more == 0 && costs(set) < costs(found)) {
                        found = set;
                    }
                }
            }
            return found;
        }

        int budget(int least) {
            int found = MeasureChoice.NONE;
            for (int set = 0; set < 1 << count; set++) {
                if (lawful(set) && gains(set) >= least && (found < 0 || costs(set) < found)) {
                    found = costs(set);
                }
            }
            return found;
        }

        List<Integer> unbeaten() {
            List<int[]> lawfulOnes = new ArrayList<>();
            for (int set = 0; set < 1 << count; set++) {
                if (lawful(set)) {
                    lawfulOnes.add(new int[] {costs(set), gains(set), set});
                }
            }
            int[] byCost = new int[120001];
            int dearest = 0;
            for (int[] one : lawfulOnes) {
                if (byCost[one[0]] == 0 && !isBeaten(one, lawfulOnes)) {
                    byCost[one[0]] = one[2] + 1;
                    dearest = Math.max(dearest, one[0]);
                }
            }
            List<Integer> found = new ArrayList<>();
            for (int c = 0; c <= dearest; c++) {
                if (byCost[c] != 0) {
                    found.add(byCost[c] - 1);
                }
            }
            return found;
        }

        private static boolean isBeaten(int[] one, List<int[]> by) {
            for (int[] other : by) {
                if (other[1] >= one[1] && other[0] <= one[0]
                        && !(other[1] == one[1] && other[0] == one[0])) {
                    return true;
                }
            }
            return false;
        }

        int[] plan(int years) {
            bestPlan = null;
            tryYear(new int[years], 0, 0);
            return bestPlan;
        }

        /** All plans, year by year: what is bought, paid from the year's money and what was left. */
        private void tryYear(int[] sets, int year, int left) {
            if (year == sets.length) {
                if (bestPlan == null || isBetter(sets, bestPlan)) {
                    bestPlan = sets.clone();
                }
                return;
            }
            int before = year == 0 ? 0 : sets[year - 1];
            int money = left + years[year];
            for (int bought = 0; bought < 1 << Math.min(count, 6); bought++) {
                if ((bought & before) == 0 && costs(bought) <= money && lawful(bought | before)) {
                    sets[year] = bought | before;
                    tryYear(sets, year + 1, money - costs(bought));
                }
            }
        }

        int gainOfPlan(int[] sets) {
            int sum = 0;
            for (int set : sets) {
                sum += gains(set);
            }
            return sum;
        }

        private boolean isBetter(int[] sets, int[] than) {
            int last = sets.length - 1;
            if (gainOfPlan(sets) != gainOfPlan(than)) {
                return gainOfPlan(sets) > gainOfPlan(than);
            }
            if (costs(sets[last]) != costs(than[last])) {
                return costs(sets[last]) < costs(than[last]);
            }
            for (int year = 0; year <= last; year++) {
                if (sets[year] != than[year]) {
                    return sets[year] < than[year];
                }
            }
            return false;
        }
    }
}
