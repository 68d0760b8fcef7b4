/** Promises 14 to 16: year, plan, planned. */
public final class PlansTest {
    private static final int LEAST = Integer.MIN_VALUE;
    private static final int MOST = Integer.MAX_VALUE;

    public static void main(String[] args) {
        year();
        wrongYears();
        whatIsLeftIsKept();
        laterYearsCount();
        spendsLeast();
        leastSets();
        lawfulEachYear();
        firstSixAlone();
        badYearsForGoodOnes();
        atTheEdges();
        followsChanges();
        plannedAlone();
        Check.end();
    }

    private static void year() {
        MeasureChoice x = new MeasureChoice();
        for (int year = 0; year < 4; year++) {
            Check.same("a year's budget at first", x.year(year, 100000 - year), 0);
        }
        for (int year = 0; year < 4; year++) {
            Check.same("a year's budget then", x.year(year, 0), 100000 - year);
        }
        Check.same("a year's budget at last", x.year(3, 5), 0);
        Check.illegalArgument("year(-1, 0)", () -> x.year(-1, 0));
        Check.illegalArgument("year(4, 0)", () -> x.year(4, 0));
        Check.illegalArgument("year(MIN, 0)", () -> x.year(LEAST, 0));
        Check.illegalArgument("year(MAX, 0)", () -> x.year(MOST, 0));
        Check.illegalArgument("year(3, -1)", () -> x.year(3, -1));
        Check.illegalArgument("year(3, 100001)", () -> x.year(3, 100001));
        Check.illegalArgument("year(3, MIN)", () -> x.year(3, LEAST));
        Check.illegalArgument("year(3, MAX)", () -> x.year(3, MOST));
        Check.same("the budget is as it was", x.year(3, 5), 5);
    }

    private static void wrongYears() {
        MeasureChoice x = Check.house(1, 1);
        for (int years : new int[] {LEAST, -1, 0, 5, MOST}) {
            Check.illegalArgument("plan(" + years + ", 0)", () -> x.plan(years, 0));
            Check.illegalArgument("planned(" + years + ")", () -> x.planned(years));
        }
        for (int years = 1; years <= 4; years++) {
            int all = years;
            for (int k : new int[] {LEAST, -1, all, all + 1, MOST}) {
                Check.illegalArgument("plan(" + all + ", " + k + ")", () -> x.plan(all, k));
            }
            Check.same("plan without money", x.plan(all, all - 1), 0);
        }
    }

    private static void whatIsLeftIsKept() {
        MeasureChoice x = Check.house(10, 20, 25, 30);
        Check.budgets(x, 12, 12, 10, 1);
        Check.plan("kept", x, 20, 1);
        Check.plan("kept", x, 40, 1, 1);
        Check.plan("kept", x, 60, 1, 1, 1);
        Check.plan("kept", x, 110, 1, 1, 1, 3);
        Check.budgets(x, 0, 9, 0, 1);
        Check.plan("late", x, 0, 0, 0, 0);
        Check.plan("late", x, 20, 0, 0, 0, 1);
    }

    private static void laterYearsCount() {
        MeasureChoice x = Check.house(10, 20, 20, 50);
        Check.budgets(x, 10, 10, 0, 0);
        Check.plan("at once", x, 20, 1);
        Check.plan("to wait gains more", x, 50, 0, 2);
        Check.plan("to wait gains more", x, 100, 0, 2, 2);
        x.change(1, 20, 40);
        Check.plan("equal gain: the one that spends less", x, 40, 1, 1);
        Check.plan("to wait gains more after three", x, 80, 0, 2, 2);
    }

    private static void spendsLeast() {
        MeasureChoice x = Check.house(9, 10, 8, 10, 3, 0);
        x.exclude(0, 1, true);
        Check.budgets(x, 100, 0);
        Check.plan("the cheaper one, and nothing for nothing", x, 20, 2, 2);
        x.exclude(0, 1, false);
        x.bonus(0, 1, -10);
        Check.plan("both gain no more", x, 20, 2, 2);
    }

    private static void leastSets() {
        MeasureChoice x = Check.house(10, 5, 10, 5, 10, 5);
        Check.budgets(x, 10, 10, 0, 10);
        Check.plan("of equal ones the least", x, 5, 1);
        Check.plan("of equal ones the least", x, 15, 1, 3);
        Check.plan("of equal ones the least", x, 25, 1, 3, 3);
        Check.plan("of equal ones the least", x, 40, 1, 3, 3, 7);
        MeasureChoice y = Check.house(5, 0, 5, 10, 5, 5, 5, 5);
        Check.budgets(y, 10, 5);
        y.needs(1, 0, true);
        Check.plan("the first year's set before the second one's", y, 25, 3, 7);
        MeasureChoice z = Check.house(10, 0, 10, 10);
        z.bonus(0, 1, 10);
        z.needs(1, 0, true);
        Check.budgets(z, 10, 10);
        Check.plan("nothing in the first year is less", z, 20, 0, 3);
    }

    private static void lawfulEachYear() {
        MeasureChoice x = Check.house(10, 30, 10, 1, 5, 20);
        Check.budgets(x, 10, 10, 0, 100);
        x.needs(0, 1, true);
        x.exclude(0, 2, true);
        Check.plan("what is needed is there", x, 20, 4);
        Check.plan("what is needed is there", x, 41, 4, 6);
        Check.plan("what was bought stays", x, 63, 2, 3, 3);
        Check.plan("money alone does not free what is excluded", x, 94, 2, 3, 3, 3);
        x.change(0, 10, 100);
        Check.plan("what excludes is not bought", x, 102, 2, 3);
        x.needs(1, 0, true);
        Check.plan("a ring at once", x, 101, 0, 3);
    }

    private static void firstSixAlone() {
        MeasureChoice x = Check.house(1, 1, 1, 1, 1, 1, 1, 1, 1, 1, 1, 1);
        Check.budgets(x, 100000, 0, 0, 0);
        Check.plan("six", x, 24, 63, 63, 63, 63);
        x.measure(1, 10000);
        Check.plan("a seventh counts nothing", x, 24, 63, 63, 63, 63);
        x.bonus(6, 0, 5000);
        Check.plan("nor does its bonus", x, 24, 63, 63, 63, 63);
        x.needs(6, 0, true);
        x.exclude(6, 0, true);
        Check.plan("nor what it excludes or needs", x, 24, 63, 63, 63, 63);
        x.needs(3, 6, true);
        Check.plan("what needs it is out", x, 20, 55, 55, 55, 55);
    }

    private static void badYearsForGoodOnes() {
        MeasureChoice x = Check.house(10, 0, 10, 100);
        x.bonus(0, 1, 50);
        Check.budgets(x, 10, 0, 10, 0);
        Check.plan("the better one first", x, 500, 2, 2, 3, 3);
        MeasureChoice y = Check.house(10, 10, 10, 10, 10, 100);
        y.bonus(0, 1, -40);
        y.bonus(0, 2, -5);
        y.bonus(1, 2, 0);
        Check.budgets(y, 20, 0, 10, 0);
        Check.plan("no more than helps", y, 440, 6, 6, 6, 6);
    }

    private static void atTheEdges() {
        MeasureChoice x = Check.greatestHouse();
        Check.budgets(x, 59999, 1, 100000, 100000);
        Check.plan("all but one, then all", x, 505000, 31, 63, 63, 63);
        Check.budgets(x, 100000, 100000, 100000, 100000);
        Check.plan("the most of all", x, 540000, 63, 63, 63, 63);
        x.exclude(0, 1, true);
        Check.plan("no purse pays what is excluded", x, 400000, 61, 61, 61, 61);
        x.exclude(0, 1, false);
        for (int m = 0; m < 12; m++) {
            x.change(m, 1, 0);
            for (int other = 0; other < m; other++) {
                x.bonus(m, other, -5000);
            }
        }
        Check.plan("nothing is best", x, 0, 0, 0, 0, 0);
    }

    private static void followsChanges() {
        MeasureChoice x = Check.house(10, 5, 10, 4);
        Check.budgets(x, 10, 10);
        Check.plan("at first", x, 14, 1, 3);
        x.change(1, 10, 6);
        Check.plan("after change", x, 17, 2, 3);
        x.exclude(0, 1, true);
        Check.plan("after exclude", x, 12, 2, 2);
        x.exclude(0, 1, false);
        x.bonus(0, 1, -100);
        Check.plan("after bonus", x, 12, 2, 2);
        x.needs(1, 0, true);
        Check.plan("after needs", x, 10, 1, 1);
        x.year(0, 9);
        Check.plan("after year", x, 5, 0, 1);
    }

    private static void plannedAlone() {
        MeasureChoice x = Check.house(10, 5, 10, 4);
        Check.budgets(x, 10, 10);
        Check.same("planned(2) before any plan", x.planned(2), 14);
        Check.same("planned(1) after planned(2)", x.planned(1), 5);
        x.change(0, 10, 3);
        Check.same("planned(2) after a change", x.planned(2), 11);
        Check.same("plan(1, 0) after planned(2)", x.plan(1, 0), 2);
        Check.same("planned(3) after plan(1, 0)", x.planned(3), 18);
    }
}
