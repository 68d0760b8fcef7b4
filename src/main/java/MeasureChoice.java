/**
 * Measures for a house: what they cost and save, what excludes what, what needs what, pairs that
 * help or hinder each other; the best set for a budget, the sets that none beats, and the best plan
 * over years. Sets are told as bits: bit m stands for measure m.
 */
public final class MeasureChoice {
    /** There is none. */
    public static final int NONE = -1;

    private static final int MOST_MEASURES = 12;
    private static final int MOST_SETS = 1 << MOST_MEASURES;
    private static final int MOST_COST = 10000;
    private static final int MOST_GAIN = 10000;
    private static final int MOST_BONUS = 5000;
    private static final int MOST_WORTH_BUDGET = 1000000;
    private static final int MOST_YEARS = 4;
    private static final int MOST_YEAR_BUDGET = 100000;
    private static final int PLAN_MEASURES = 6;
    private static final int PLAN_SETS = 1 << PLAN_MEASURES;

    private final House house;
    private final Ladder ladder;
    private final Planner planner;

    public MeasureChoice() {
        house = new House();
        ladder = new Ladder();
        planner = new Planner();
    }

    public int measure(int cost, int gain) throws IllegalArgumentException, IllegalStateException {
        requireCostAndGain(cost, gain);
        if (house.count >= MOST_MEASURES) {
            throw new IllegalStateException("there are 12 measures");
        }
        return house.add(cost, gain);
    }

    public void change(int measure, int cost, int gain) throws IllegalArgumentException {
        requireMeasure(measure);
        requireCostAndGain(cost, gain);
        house.put(measure, cost, gain);
    }

    public boolean exclude(int measure, int other, boolean on) throws IllegalArgumentException {
        requirePair(measure, other);
        boolean before = House.has(house.excluded[measure], other);
        house.putExcluded(measure, other, on);
        return before;
    }

    public boolean needs(int measure, int other, boolean on) throws IllegalArgumentException {
        requirePair(measure, other);
        boolean before = House.has(house.needed[measure], other);
        house.putNeeded(measure, other, on);
        return before;
    }

    public int bonus(int measure, int other, int amount) throws IllegalArgumentException {
        requirePair(measure, other);
        requireBetween(amount, -MOST_BONUS, MOST_BONUS);
        int before = house.bonuses[measure][other];
        house.putBonus(measure, other, amount);
        return before;
    }

    // ---- sets

    public boolean lawful(int set) throws IllegalArgumentException {
        requireSet(set);
        return house.allows(set);
    }

    public int told(int set, int what) throws IllegalArgumentException {
        requireSet(set);
        requireBetween(what, 0, 1);
        return what == 0 ? house.costOf(set) : house.gainOf(set);
    }

    public int closure(int measure) throws IllegalArgumentException {
        requireMeasure(measure);
        return house.broughtBy(measure);
    }

    public int best(int budget) throws IllegalArgumentException {
        requireNotBelowZero(budget);
        ladder.bringUpToDate(house);
        return ladder.setAt(ladder.highestWithin(budget));
    }

    public int budget(int gain) {
        ladder.bringUpToDate(house);
        int rung = ladder.lowestGaining(gain);
        return rung == NONE ? NONE : ladder.costAt(rung);
    }

    public int worth(int budget, int more) throws IllegalArgumentException {
        requireNotBelowZero(budget);
        requireNotBelowZero(more);
        // Compared by subtraction, since the sum of the two may overflow.
        if (budget > MOST_WORTH_BUDGET || more > MOST_WORTH_BUDGET - budget) {
            throw new IllegalArgumentException("both together are above 1000000");
        }
        ladder.bringUpToDate(house);
        int richer = ladder.gainAt(ladder.highestWithin(budget + more));
        return richer - ladder.gainAt(ladder.highestWithin(budget));
    }

    public int frontier(int k) throws IllegalArgumentException {
        requireNotBelowZero(k);
        ladder.bringUpToDate(house);
        return k < ladder.rungs ? ladder.setAt(k) : NONE;
    }

    // ---- plans

    public int year(int year, int budget) throws IllegalArgumentException {
        requireBetween(year, 0, MOST_YEARS - 1);
        requireBetween(budget, 0, MOST_YEAR_BUDGET);
        int before = planner.budgets[year];
        planner.budgets[year] = budget;
        return before;
    }

    public int plan(int years, int k) throws IllegalArgumentException {
        requireBetween(years, 1, MOST_YEARS);
        requireBetween(k, 0, years - 1);
        planner.work(house, years);
        return planner.boughtUpTo(k);
    }

    public int planned(int years) throws IllegalArgumentException {
        requireBetween(years, 1, MOST_YEARS);
        planner.work(house, years);
        return planner.totals[0][planner.boughtUpTo(0)];
    }

    // ---- what arguments must be

    private static void requireBetween(int number, int least, int most) {
        if (number < least || number > most) {
            throw new IllegalArgumentException("a number is out of its bounds");
        }
    }

    private static void requireNotBelowZero(int number) {
        if (number < 0) {
            throw new IllegalArgumentException("a number is below 0");
        }
    }

    private static void requireCostAndGain(int cost, int gain) {
        requireBetween(cost, 1, MOST_COST);
        requireBetween(gain, 0, MOST_GAIN);
    }

    private void requireMeasure(int measure) {
        if (measure < 0 || measure >= house.count) {
            throw new IllegalArgumentException("there is no such measure");
        }
    }

    private void requirePair(int measure, int other) {
        requireMeasure(measure);
        requireMeasure(other);
        if (measure == other) {
            throw new IllegalArgumentException("both are one measure");
        }
    }

    private void requireSet(int set) {
        if (set < 0 || set >= 1 << house.count) {
            throw new IllegalArgumentException("a bit of no measure is set");
        }
    }

    /** The measures, and what holds between them. Measures and sets given here are valid ones. */
    private static final class House {
        int count;
        /** Grows with every change, so that what was worked out earlier is known to be old. */
        int version;
        final int[] costs = new int[MOST_MEASURES];
        final int[] gains = new int[MOST_MEASURES];
        /** For each measure the set of those that it excludes. */
        final int[] excluded = new int[MOST_MEASURES];
        /** For each measure the set of those that it needs itself. */
        final int[] needed = new int[MOST_MEASURES];
        final int[][] bonuses = new int[MOST_MEASURES][MOST_MEASURES];

        int add(int cost, int gain) {
            int measure = count;
            count++;
            put(measure, cost, gain);
            return measure;
        }

        void put(int measure, int cost, int gain) {
            costs[measure] = cost;
            gains[measure] = gain;
            version++;
        }

        void putExcluded(int measure, int other, boolean on) {
            excluded[measure] = with(excluded[measure], other, on);
            excluded[other] = with(excluded[other], measure, on);
            version++;
        }

        void putNeeded(int measure, int other, boolean on) {
            needed[measure] = with(needed[measure], other, on);
            version++;
        }

        void putBonus(int measure, int other, int amount) {
            bonuses[measure][other] = amount;
            bonuses[other][measure] = amount;
            version++;
        }

        boolean allows(int set) {
            for (int m = 0; m < count; m++) {
                if (has(set, m) && ((excluded[m] & set) != 0 || (needed[m] & ~set) != 0)) {
                    return false;
                }
            }
            return true;
        }

        int costOf(int set) {
            int sum = 0;
            for (int m = 0; m < count; m++) {
                if (has(set, m)) {
                    sum += costs[m];
                }
            }
            return sum;
        }

        int gainOf(int set) {
            int sum = 0;
            for (int m = 0; m < count; m++) {
                if (has(set, m)) {
                    sum += gains[m] + bonusWithEarlier(m, set);
                }
            }
            return sum;
        }

        private int bonusWithEarlier(int measure, int set) {
            int sum = 0;
            for (int m = 0; m < measure; m++) {
                if (has(set, m)) {
                    sum += bonuses[measure][m];
                }
            }
            return sum;
        }

        int broughtBy(int measure) {
            int set = 1 << measure;
            // The longest chain of needs has each measure once, so so many rounds follow all of it.
            for (int round = 0; round < count; round++) {
                set = withItsNeeds(set);
            }
            return set;
        }

        private int withItsNeeds(int set) {
            int wider = set;
            for (int m = 0; m < count; m++) {
                if (has(set, m)) {
                    wider |= needed[m];
                }
            }
            return wider;
        }

        static boolean has(int set, int measure) {
            return ((set >> measure) & 1) != 0;
        }

        private static int with(int set, int measure, boolean on) {
            int bit = 1 << measure;
            return on ? set | bit : set & ~bit;
        }
    }

    /**
     * The lawful sets that no lawful set beats, one for each cost, as rungs from the cheapest up.
     * Cost and gain both grow from rung to rung, so the best set for a budget is the highest rung
     * that the budget pays, and the least budget for a gain is the cost of the lowest rung with it.
     */
    private static final class Ladder {
        int rungs;
        private int version = NONE;
        /**
         * A set and its cost in one number, the cost above the set's bits: these numbers stand in
         * the order of costs and, among equal costs, of the sets.
         */
        private final int[] steps = new int[MOST_SETS];
        /** For each set, lawful or not, what it gains. */
        private final int[] gains = new int[MOST_SETS];

        int setAt(int rung) {
            return steps[rung] & (MOST_SETS - 1);
        }

        int costAt(int rung) {
            return steps[rung] >> MOST_MEASURES;
        }

        int gainAt(int rung) {
            return gains[setAt(rung)];
        }

        /** The lowest rung costs nothing, so every budget from 0 on pays a rung. */
        int highestWithin(int budget) {
            int rung = 0;
            for (int next = 1; next < rungs && costAt(next) <= budget; next++) {
                rung = next;
            }
            return rung;
        }

        int lowestGaining(int gain) {
            for (int rung = 0; rung < rungs; rung++) {
                if (gainAt(rung) >= gain) {
                    return rung;
                }
            }
            return NONE;
        }

        void bringUpToDate(House house) {
            if (version == house.version) {
                return;
            }
            steps[0] = 0;
            gains[0] = 0;
            for (int m = 0; m < house.count; m++) {
                addSteps(1 << m, (house.costs[m] << MOST_MEASURES) + (1 << m));
                addGains(m, house);
            }
            keepUnbeaten(house);
            version = house.version;
        }

        /**
         * The first steps stand in order, and each of them with one more measure too: merged from
         * the upper end, which needs no second row, as a step is written only above those unread.
         */
        private void addSteps(int size, int added) {
            int plain = size - 1;
            int raised = size - 1;
            for (int at = 2 * size - 1; at >= 0 && raised >= 0 && plain >= 0; at--) {
                int step = steps[raised] + added;
                if (step > steps[plain]) {
                    steps[at] = step;
                    raised--;
                } else {
                    steps[at] = steps[plain];
                    plain--;
                }
            }
        }

        /**
         * The gains of all sets whose last measure is this one. What a measure adds to a set grows,
         * with another measure in that set, by the bonus of the two alone.
         */
        private void addGains(int measure, House house) {
            int bit = 1 << measure;
            gains[bit] = house.gains[measure];
            for (int m = 0; m < measure; m++) {
                int other = 1 << m;
                int bonus = house.bonuses[measure][m];
                for (int rest = 0; rest < other; rest++) {
                    int addedToRest = gains[bit | rest] - gains[rest];
                    gains[bit | other | rest] = gains[other | rest] + addedToRest + bonus;
                }
            }
        }

        /** Writes the rungs over the steps that have been read. */
        private void keepUnbeaten(House house) {
            rungs = 1;
            for (int at = 1; at < 1 << house.count; at++) {
                int set = setAt(at);
                if (gains[set] > gainAt(rungs - 1) && house.allows(set)) {
                    // Of two with one cost the later one gains more here and beats the earlier one.
                    if (costAt(at) > costAt(rungs - 1)) {
                        rungs++;
                    }
                    steps[rungs - 1] = steps[at];
                }
            }
        }
    }

    /** The best plan, worked out from the last year back to the first. */
    private static final class Planner {
        /** Above every purse, so that an unlawful set is never paid. */
        private static final int UNLAWFUL = MOST_YEARS * MOST_YEAR_BUDGET + 1;

        final int[] budgets = new int[MOST_YEARS];
        /** For each year and each set bought up to it: the most gained from that year on. */
        final int[][] totals = new int[MOST_YEARS][PLAN_SETS];
        /** For the same: what such a plan spends altogether. */
        private final int[][] spent = new int[MOST_YEARS][PLAN_SETS];
        /** For each year all budgets up to it, as what is left over is kept. */
        private final int[] purses = new int[MOST_YEARS];
        private final int[] prices = new int[PLAN_SETS];
        private final int[] gains = new int[PLAN_SETS];
        private int sets;

        void work(House house, int years) {
            fillPurses();
            judgeSets(house);
            for (int year = years - 1; year >= 0; year--) {
                workYear(year, year == years - 1);
            }
        }

        /** Only for years of the plan last worked out. */
        int boughtUpTo(int year) {
            int set = 0;
            for (int y = 0; y <= year; y++) {
                set = bestFrom(set, y);
            }
            return set;
        }

        private void fillPurses() {
            int purse = 0;
            for (int year = 0; year < MOST_YEARS; year++) {
                purse += budgets[year];
                purses[year] = purse;
            }
        }

        private void judgeSets(House house) {
            sets = 1 << Math.min(house.count, PLAN_MEASURES);
            for (int set = 0; set < sets; set++) {
                prices[set] = house.allows(set) ? house.costOf(set) : UNLAWFUL;
                gains[set] = house.gainOf(set);
            }
        }

        private void workYear(int year, boolean last) {
            for (int set = 0; set < sets; set++) {
                if (prices[set] <= purses[year]) {
                    if (last) {
                        totals[year][set] = gains[set];
                        spent[year][set] = prices[set];
                    } else {
                        int next = bestFrom(set, year + 1);
                        totals[year][set] = gains[set] + totals[year + 1][next];
                        spent[year][set] = spent[year + 1][next];
                    }
                }
            }
        }

        /**
         * The best set to have bought up to a year by one who had another set before: that one or
         * one around it. The set from before is paid already, so there is always an answer; wider
         * sets come as growing numbers, so of equal ones the least stays.
         */
        private int bestFrom(int before, int year) {
            int found = before;
            for (int set = before; set < sets; set = (set + 1) | before) {
                if (prices[set] <= purses[year] && isBetter(year, set, found)) {
                    found = set;
                }
            }
            return found;
        }

        private boolean isBetter(int year, int set, int other) {
            if (totals[year][set] != totals[year][other]) {
                return totals[year][set] > totals[year][other];
            }
            return spent[year][set] < spent[year][other];
        }
    }
}
