/**
 * A test for each boundary case that the promises 14 to 16 and 'Terms' name for plans. That wrong
 * calls throw and change nothing is in RefusedCallsTest, call by call.
 */
public final class PlansBoundsTest {
    private static final int LEAST = Integer.MIN_VALUE;
    private static final int MOST = Integer.MAX_VALUE;

    public static void main(String[] args) {
        Check.sentence("YEARS 0 .. 3 at most", PlansBoundsTest::yearsZeroToThree);
        Check.sentence("(1 .. 4 of them)", PlansBoundsTest::oneToFourYears);
        Check.sentence("each with a budget (0 .. 100000)", PlansBoundsTest::budgetBounds);
        Check.sentence("costs are not more than that year's budget", PlansBoundsTest::justTheBudget);
        Check.sentence("costs together", PlansBoundsTest::costsTogether);
        Check.sentence("and what was left of the years before", PlansBoundsTest::whatWasLeft);
        Check.sentence("what was left, less what was spent", PlansBoundsTest::whatWasSpent);
        Check.sentence("later years pay for no earlier ones", PlansBoundsTest::laterMoney);
        Check.sentence("a lawful set then: what is needed", PlansBoundsTest::neededThen);
        Check.sentence("a lawful set then: rings", PlansBoundsTest::ringsThen);
        Check.sentence("a lawful set then: what is excluded", PlansBoundsTest::excludedThen);
        Check.sentence("A plan GAINS for each year, summed", PlansBoundsTest::summedGains);
        Check.sentence("the most and the least that a plan gains", PlansBoundsTest::greatestPlan);
        Check.sentence("made of the first 6 measures alone", PlansBoundsTest::firstSixAlone);
        Check.sentence("the first 6 and what they have with others", PlansBoundsTest::sixAndOthers);
        Check.sentence("the best one gains most", PlansBoundsTest::gainsMost);
        Check.sentence("of these it spends least altogether", PlansBoundsTest::spendsLeast);
        Check.sentence("the years' sets are least: the first year's", PlansBoundsTest::leastFirst);
        Check.sentence("then the second one's, and so on", PlansBoundsTest::leastThen);
        Check.sentence("14: what it was (0 at first)", PlansBoundsTest::yearAsItWas);
        Check.sentence("14: Illegal argument", PlansBoundsTest::wrongYear);
        Check.sentence("15: what was bought up to the k-th", PlansBoundsTest::boughtUpToEach);
        Check.sentence("15: also if k is not below years", PlansBoundsTest::wrongK);
        Check.sentence("15, 16: Illegal argument", PlansBoundsTest::wrongYears);
        Check.sentence("16: What the best plan gains", PlansBoundsTest::plannedForEach);
        Check.end();
    }

    private static void yearsZeroToThree() {
        MeasureChoice x = Check.house(7, 1);
        for (int year = 0; year <= 3; year++) {
            Check.same("year(" + year + ", 7)", x.year(year, 7), 0);
            Check.same("planned(" + (year + 1) + ")", x.planned(year + 1), year + 1);
        }
        Check.illegalArgument("year(-1, 7)", () -> x.year(-1, 7));
        Check.illegalArgument("year(4, 7)", () -> x.year(4, 7));
    }

    private static void oneToFourYears() {
        MeasureChoice x = Check.house(7, 1);
        x.year(0, 7);
        Check.plan("one year", x, 1, 1);
        Check.plan("two years", x, 2, 1, 1);
        Check.plan("three years", x, 3, 1, 1, 1);
        Check.plan("four years", x, 4, 1, 1, 1, 1);
        Check.illegalArgument("plan(0, 0)", () -> x.plan(0, 0));
        Check.illegalArgument("plan(5, 0)", () -> x.plan(5, 0));
        Check.illegalArgument("planned(0)", () -> x.planned(0));
        Check.illegalArgument("planned(5)", () -> x.planned(5));
    }

    private static void budgetBounds() {
        MeasureChoice x = Check.house(10000, 1);
        for (int year = 0; year < 4; year++) {
            int y = year;
            Check.same("year(" + y + ", 100000)", x.year(y, 100000), 0);
            Check.illegalArgument("year(" + y + ", 100001)", () -> x.year(y, 100001));
            Check.same("year(" + y + ", 0)", x.year(y, 0), 100000);
            Check.illegalArgument("year(" + y + ", -1)", () -> x.year(y, -1));
            Check.same("year(" + y + ", 1)", x.year(y, 1), 0);
            Check.same("year(" + y + ", 0) again", x.year(y, 0), 1);
        }
        Check.plan("no money at all", x, 0, 0, 0, 0, 0);
    }

    private static void justTheBudget() {
        for (int year = 0; year < 4; year++) {
            MeasureChoice x = Check.house(10, 5);
            x.year(year, 9);
            Check.same("one below the cost in year " + year, x.plan(4, year), 0);
            Check.same("gains nothing", x.planned(4), 0);
            x.year(year, 10);
            Check.same("just the cost in year " + year, x.plan(4, year), 1);
            Check.same("gains from then on", x.planned(4), 5 * (4 - year));
            if (year > 0) {
                Check.same("but not before", x.plan(4, year - 1), 0);
            }
        }
    }

    private static void costsTogether() {
        MeasureChoice x = Check.house(10, 5, 11, 6, 12, 7);
        x.year(0, 33);
        Check.plan("just all three", x, 18, 7);
        x.year(0, 32);
        Check.plan("one below all three", x, 13, 6);
        x.year(0, 23);
        Check.plan("just the last two", x, 13, 6);
        x.year(0, 22);
        Check.plan("one below the last two", x, 12, 5);
        x.year(0, 21);
        Check.plan("just the first two", x, 11, 3);
        x.year(0, 20);
        Check.plan("one below any two", x, 7, 4);
    }

    private static void whatWasLeft() {
        MeasureChoice x = Check.house(40, 5);
        Check.budgets(x, 10, 10, 10, 10);
        Check.plan("four years' money", x, 5, 0, 0, 0, 1);
        Check.budgets(x, 10, 10, 10, 9);
        Check.plan("one below", x, 0, 0, 0, 0, 0);
        Check.budgets(x, 39, 0, 0, 1);
        Check.plan("kept over two empty years", x, 5, 0, 0, 0, 1);
        Check.budgets(x, 39, 0, 1, 0);
        Check.plan("kept over an empty year", x, 10, 0, 0, 1, 1);
        Check.budgets(x, 39, 1, 0, 0);
        Check.plan("kept to the next year", x, 15, 0, 1, 1, 1);
        Check.budgets(x, 20, 20, 0, 0);
        Check.plan("halves", x, 15, 0, 1, 1, 1);
        Check.plan("halves, both years alone", x, 5, 0, 1);
        Check.plan("halves, the first year alone", x, 0, 0);
    }

    private static void whatWasSpent() {
        MeasureChoice x = Check.house(10, 5, 10, 5);
        Check.budgets(x, 10, 9);
        Check.plan("nothing was left", x, 10, 1, 1);
        Check.budgets(x, 10, 10);
        Check.plan("just the other one", x, 15, 1, 3);
        Check.budgets(x, 11, 9);
        Check.plan("one was left", x, 15, 1, 3);
        Check.budgets(x, 11, 8);
        Check.plan("one was left, one lacks", x, 10, 1, 1);
        Check.budgets(x, 19, 0, 1, 0);
        Check.plan("nine were left", x, 30, 1, 1, 3, 3);
        Check.budgets(x, 13, 2, 2, 3);
        Check.plan("left over from all years", x, 25, 1, 1, 1, 3);
        Check.budgets(x, 13, 2, 2, 2);
        Check.plan("left over, one lacks", x, 20, 1, 1, 1, 1);
    }

    private static void laterMoney() {
        MeasureChoice x = Check.house(10, 5, 10, 5);
        Check.budgets(x, 9, 100000);
        Check.plan("the first year is poor", x, 10, 0, 3);
        Check.plan("and is all there is", x, 0, 0);
        Check.budgets(x, 0, 0, 0, 100000);
        Check.plan("the last year is rich", x, 10, 0, 0, 0, 3);
        Check.plan("but does not count over three", x, 0, 0, 0, 0);
    }

    private static void neededThen() {
        MeasureChoice x = Check.house(10, 30, 10, 1);
        x.needs(0, 1, true);
        Check.budgets(x, 10, 10, 0, 0);
        Check.plan("the needed one alone", x, 1, 2);
        Check.plan("the needed one before", x, 32, 2, 3);
        Check.budgets(x, 20, 0, 0, 0);
        Check.plan("both in one year", x, 31, 3);
        x.change(1, 10, 0);
        Check.budgets(x, 10, 9, 0, 0);
        Check.plan("the needed one is no use alone", x, 0, 0, 0, 0, 0);
        Check.budgets(x, 10, 9, 0, 1);
        Check.plan("both in the last year", x, 30, 0, 0, 0, 3);
        MeasureChoice y = Check.equalHouse(6, 10, 1);
        for (int m = 0; m < 5; m++) {
            y.needs(m, m + 1, true);
        }
        Check.budgets(y, 10, 20, 10, 20);
        Check.plan("a chain from its end", y, 14, 32, 56, 60, 63);
    }

    private static void ringsThen() {
        MeasureChoice x = Check.equalHouse(3, 10, 1);
        x.needs(0, 1, true);
        x.needs(1, 2, true);
        x.needs(2, 0, true);
        Check.budgets(x, 10, 10, 9, 1);
        Check.plan("not before all are paid", x, 3, 0, 0, 0, 7);
        Check.budgets(x, 10, 10, 10, 0);
        Check.plan("all at once", x, 6, 0, 0, 7, 7);
        Check.budgets(x, 10, 10, 9, 0);
        Check.plan("never", x, 0, 0, 0, 0, 0);
        MeasureChoice y = Check.equalHouse(6, 10000, 1);
        for (int m = 0; m < 6; m++) {
            y.needs(m, (m + 1) % 6, true);
        }
        Check.budgets(y, 59999, 1, 0, 0);
        Check.plan("a ring of six", y, 18, 0, 63, 63, 63);
    }

    private static void excludedThen() {
        MeasureChoice x = Check.house(10, 5, 10, 6);
        x.exclude(0, 1, true);
        Check.budgets(x, 100000, 100000, 100000, 100000);
        Check.plan("never both", x, 24, 2, 2, 2, 2);
        x.change(0, 9, 5);
        x.change(1, 10, 7);
        Check.budgets(x, 9, 1, 100000, 0);
        Check.plan("over four years the second one, a year later", x, 21, 0, 2, 2, 2);
        Check.plan("over three the first one, which is not given back", x, 15, 1, 1, 1);
        Check.plan("over two the first one", x, 10, 1, 1);
        x.exclude(1, 0, false);
        Check.plan("both once they may", x, 34, 1, 1, 3, 3);
    }

    private static void summedGains() {
        MeasureChoice x = Check.house(10, 7, 10, 5);
        x.bonus(0, 1, 100);
        Check.budgets(x, 10, 0, 10, 0);
        Check.plan("one year", x, 7, 1);
        Check.plan("two years", x, 14, 1, 1);
        Check.plan("three years, the bonus once", x, 126, 1, 1, 3);
        Check.plan("four years, the bonus twice", x, 238, 1, 1, 3, 3);
        x.bonus(0, 1, -5);
        Check.plan("a bonus that takes all", x, 28, 1, 1, 1, 1);
        x.bonus(0, 1, -4);
        Check.plan("a bonus that leaves one", x, 30, 1, 1, 3, 3);
    }

    private static void greatestPlan() {
        MeasureChoice x = Check.greatestHouse();
        Check.budgets(x, 100000, 100000, 100000, 100000);
        Check.plan("the most", x, 135000, 63);
        Check.plan("the most", x, 540000, 63, 63, 63, 63);
        Check.budgets(x, 60000, 0, 0, 0);
        Check.plan("just enough", x, 540000, 63, 63, 63, 63);
        Check.budgets(x, 59999, 0, 0, 0);
        Check.plan("one below", x, 400000, 31, 31, 31, 31);
        Check.budgets(x, 9999, 0, 0, 100000);
        Check.plan("all in the last year", x, 135000, 0, 0, 0, 63);
        MeasureChoice y = Check.equalHouse(6, 1, 0);
        for (int a = 0; a < 6; a++) {
            for (int b = 0; b < a; b++) {
                y.bonus(a, b, -5000);
            }
        }
        Check.budgets(y, 100000, 100000, 100000, 100000);
        Check.plan("never below 0", y, 0, 0, 0, 0, 0);
    }

    private static void firstSixAlone() {
        for (int count = 0; count <= 12; count++) {
            MeasureChoice x = Check.equalHouse(count, 1, 1);
            x.year(0, 100000);
            int bought = Math.min(count, 6);
            Check.plan("of " + count, x, bought, (1 << bought) - 1);
            Check.plan("of " + count, x, 2 * bought, (1 << bought) - 1, (1 << bought) - 1);
        }
        MeasureChoice y = Check.equalHouse(5, 10, 1);
        y.year(0, 10);
        y.measure(10, 2);
        Check.plan("the sixth counts", y, 2, 32);
        y.measure(10, 3);
        Check.plan("the seventh does not", y, 2, 32);
        Check.same("but in other sets it does", y.best(10), 64);
    }

    private static void sixAndOthers() {
        MeasureChoice x = Check.equalHouse(12, 1, 1);
        x.year(0, 100000);
        for (int m = 6; m < 12; m++) {
            x.bonus(m, 0, 5000);
            x.exclude(m, 1, true);
            x.needs(m, 2, true);
        }
        Check.plan("others take nothing and give nothing", x, 6, 63);
        x.needs(5, 6, true);
        Check.plan("one that needs the seventh is not bought", x, 5, 31);
        x.needs(4, 5, true);
        Check.plan("nor one that needs that one", x, 4, 15);
        x.needs(5, 6, false);
        x.needs(3, 11, true);
        Check.plan("nor one that needs the twelfth", x, 5, 55);
    }

    private static void gainsMost() {
        MeasureChoice x = Check.house(10, 20, 20, 50);
        Check.budgets(x, 10, 10, 0, 0);
        Check.plan("at once over one year", x, 20, 1);
        Check.plan("one waits over two", x, 50, 0, 2);
        x.change(1, 20, 41);
        Check.plan("one waits for one more", x, 41, 0, 2);
        x.change(1, 20, 40);
        Check.plan("one does not wait for as much", x, 40, 1, 1);
        x.change(1, 20, 39);
        Check.plan("one does not wait for less", x, 40, 1, 1);
        Check.plan("one waits over three for less", x, 78, 0, 2, 2);
        MeasureChoice y = Check.house(10, 9, 30, 40);
        Check.budgets(y, 10, 10, 10, 0);
        Check.plan("one waits two years", y, 80, 0, 0, 2, 2);
        Check.budgets(y, 10, 0, 10, 10);
        Check.plan("one waits three years", y, 40, 0, 0, 0, 2);
        y.change(1, 30, 36);
        Check.plan("one waits no more", y, 36, 1, 1, 1, 1);
    }

    private static void spendsLeast() {
        MeasureChoice x = Check.house(10, 5, 9, 5, 3, 0);
        x.exclude(0, 1, true);
        x.year(0, 100);
        Check.plan("the cheaper one, and none that gains nothing", x, 5, 2);
        Check.plan("over all years", x, 20, 2, 2, 2, 2);
        x.change(0, 9, 5);
        Check.plan("as cheap: the least set", x, 20, 1, 1, 1, 1);
        MeasureChoice y = Check.house(10, 20, 20, 40);
        Check.budgets(y, 10, 10);
        Check.plan("altogether less, though more at first", y, 40, 1, 1);
        MeasureChoice z = Check.house(30, 4, 10, 1, 10, 1);
        z.exclude(0, 1, true);
        z.exclude(0, 2, true);
        Check.budgets(z, 10, 10, 10, 0);
        Check.plan("small ones gain less than a great one", z, 8, 0, 0, 1, 1);
        z.change(1, 10, 2);
        z.change(2, 10, 0);
        Check.plan("one small one as much for less", z, 8, 2, 2, 2, 2);
    }

    /** {0, 3} and {1, 2} cost and gain the same, and so do {0} and {1}: 1, 9 or 2, 6. */
    private static MeasureChoice crossed() {
        MeasureChoice x = Check.house(10, 10, 10, 10, 10, 5, 10, 5);
        x.bonus(0, 3, 15);
        x.bonus(1, 2, 15);
        return x;
    }

    private static void leastFirst() {
        MeasureChoice x = crossed();
        Check.budgets(x, 10, 10);
        Check.plan("the first year's, though the second one's is greater", x, 40, 1, 9);
        x.change(0, 10, 9);
        x.change(3, 10, 6);
        Check.plan("the other one gains one more at first", x, 40, 2, 6);
        MeasureChoice y = Check.house(10, 0, 10, 10);
        y.bonus(0, 1, 10);
        y.needs(1, 0, true);
        Check.budgets(y, 10, 10);
        Check.plan("nothing is less than something", y, 20, 0, 3);
        MeasureChoice z = Check.equalHouse(6, 10, 1);
        Check.budgets(z, 20, 20, 10, 10);
        Check.plan("equal ones in their order", z, 17, 3, 15, 31, 63);
    }

    private static void leastThen() {
        MeasureChoice x = crossed();
        Check.budgets(x, 0, 10, 10, 0);
        Check.plan("the second year's", x, 40, 0, 1, 9);
        Check.plan("the second year's", x, 70, 0, 1, 9, 9);
        Check.budgets(x, 0, 0, 10, 10);
        Check.plan("the third year's", x, 40, 0, 0, 1, 9);
        Check.budgets(x, 0, 0, 0, 10);
        Check.plan("the last year's", x, 10, 0, 0, 0, 1);
        Check.budgets(x, 0, 0, 0, 20);
        Check.plan("the last year's", x, 30, 0, 0, 0, 6);
        MeasureChoice y = Check.equalHouse(3, 10, 5);
        Check.budgets(y, 10, 0, 0, 10);
        Check.plan("one in the first and one in the last", y, 25, 1, 1, 1, 3);
    }

    private static void yearAsItWas() {
        MeasureChoice x = new MeasureChoice();
        for (int year = 0; year < 4; year++) {
            Check.same("at first", x.year(year, 10 + year), 0);
            Check.same("the same again", x.year(year, 10 + year), 10 + year);
        }
        for (int year = 3; year >= 0; year--) {
            Check.same("no other year's", x.year(year, 100000), 10 + year);
            Check.same("the most", x.year(year, 0), 100000);
            Check.same("none", x.year(year, 1), 0);
        }
        x.planned(4);
        x.plan(4, 3);
        x.best(100);
        for (int year = 0; year < 4; year++) {
            Check.same("no plan spends it", x.year(year, 1), 1);
        }
    }

    private static void wrongYear() {
        MeasureChoice x = new MeasureChoice();
        Check.budgets(x, 1, 2, 3, 4);
        for (int year : new int[] {LEAST, -4, -1, 4, 5, 32, MOST}) {
            Check.illegalArgument("year(" + year + ", 9)", () -> x.year(year, 9));
        }
        for (int budget : new int[] {LEAST, -1, 100001, MOST}) {
            for (int y = 0; y < 4; y++) {
                int year = y;
                Check.illegalArgument("year(" + y + ", " + budget + ")", () -> x.year(year, budget));
            }
        }
        for (int year = 0; year < 4; year++) {
            Check.same("year " + year + " is as it was", x.year(year, 0), 1 + year);
        }
    }

    private static void boughtUpToEach() {
        MeasureChoice x = Check.equalHouse(4, 10, 1);
        Check.budgets(x, 10, 10, 10, 10);
        Check.same("plan(1, 0)", x.plan(1, 0), 1);
        Check.same("plan(4, 3), the last", x.plan(4, 3), 15);
        Check.same("plan(4, 0), the first", x.plan(4, 0), 1);
        Check.same("plan(3, 2) is of another plan", x.plan(3, 2), 7);
        Check.same("plan(4, 2)", x.plan(4, 2), 7);
        MeasureChoice y = Check.house(10, 20, 20, 50);
        Check.budgets(y, 10, 10, 0, 0);
        Check.same("plan(1, 0) of its own", y.plan(1, 0), 1);
        Check.same("plan(2, 0) of its own", y.plan(2, 0), 0);
        Check.same("plan(2, 1) of its own", y.plan(2, 1), 2);
    }

    private static void wrongK() {
        MeasureChoice x = Check.house(10, 5);
        Check.budgets(x, 10, 10, 10, 10);
        for (int y = 1; y <= 4; y++) {
            int years = y;
            Check.same("plan(" + years + ", its last)", x.plan(years, years - 1), 1);
            for (int k : new int[] {LEAST, -1, years, years + 1, 4, 5, MOST}) {
                Check.illegalArgument("plan(" + years + ", " + k + ")", () -> x.plan(years, k));
            }
        }
    }

    private static void wrongYears() {
        MeasureChoice x = Check.house(10, 5);
        Check.budgets(x, 10, 10, 10, 10);
        for (int years : new int[] {LEAST, -4, -1, 0, 5, 6, MOST}) {
            for (int k : new int[] {-1, 0, 3, 4}) {
                Check.illegalArgument("plan(" + years + ", " + k + ")", () -> x.plan(years, k));
            }
            Check.illegalArgument("planned(" + years + ")", () -> x.planned(years));
        }
    }

    private static void plannedForEach() {
        MeasureChoice x = Check.house(10, 20, 20, 50);
        Check.budgets(x, 10, 10, 0, 10);
        Check.same("planned(1)", x.planned(1), 20);
        Check.same("planned(2)", x.planned(2), 50);
        Check.same("planned(3)", x.planned(3), 100);
        Check.same("planned(4)", x.planned(4), 170);
        Check.same("planned(1) after all", x.planned(1), 20);
        Check.budgets(x, 0, 0, 0, 0);
        for (int years = 1; years <= 4; years++) {
            Check.same("planned(" + years + ") without money", x.planned(years), 0);
        }
    }
}
