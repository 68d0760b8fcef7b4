/**
 * A test for each boundary case that the promises 7 to 13 name. That wrong calls throw and change
 * nothing is in RefusedCallsTest, call by call.
 */
public final class SetsBoundsTest {
    private static final int ALL = 4095;
    private static final int NONE = MeasureChoice.NONE;
    private static final int LEAST = Integer.MIN_VALUE;
    private static final int MOST = Integer.MAX_VALUE;

    public static void main(String[] args) {
        Check.sentence("7: lawful: the empty and the full set", SetsBoundsTest::emptyAndFull);
        Check.sentence("7: Illegal argument: a bit of no measure", SetsBoundsTest::bitOfNoMeasure);
        Check.sentence("7: Illegal argument: below 0", SetsBoundsTest::setBelowZero);
        Check.sentence("8: What a set costs (what = 0) or gains (1)", SetsBoundsTest::whatIsTold);
        Check.sentence("8: told: lawful or not", SetsBoundsTest::toldUnlawful);
        Check.sentence("8: Illegal argument: as lawful(), and what", SetsBoundsTest::toldWrong);
        Check.sentence("9: the least set with it", SetsBoundsTest::closureIsLeast);
        Check.sentence("9: whatever those in it need", SetsBoundsTest::closureOfChains);
        Check.sentence("9: closure: lawful or not", SetsBoundsTest::closureUnlawful);
        Check.sentence("10: costs no more than a budget", SetsBoundsTest::bestAtTheBudget);
        Check.sentence("10: best: nothing to be had", SetsBoundsTest::bestOfNothing);
        Check.sentence("10: Illegal argument: below 0", SetsBoundsTest::bestBelowZero);
        Check.sentence("10: best: no budget is too large", SetsBoundsTest::bestOfAll);
        Check.sentence("10: The best lawful set", SetsBoundsTest::bestIsLawful);
        Check.sentence("11: gains so much or more", SetsBoundsTest::budgetForSoMuch);
        Check.sentence("11: budget: a gain of 0 and below", SetsBoundsTest::budgetForNothing);
        Check.sentence("11: NONE if none does", SetsBoundsTest::budgetForTooMuch);
        Check.sentence("11: with which a lawful set gains so much", SetsBoundsTest::budgetLawful);
        Check.sentence("12: with a budget and so much more", SetsBoundsTest::worthOfMore);
        Check.sentence("12: worth: of no more", SetsBoundsTest::worthOfNoMore);
        Check.sentence("12: Illegal argument: one is below 0", SetsBoundsTest::worthBelowZero);
        Check.sentence("12: both together are above 1000000", SetsBoundsTest::worthTogether);
        Check.sentence("12: both together, where the sum wraps", SetsBoundsTest::worthWraps);
        Check.sentence("13: one for each cost (the least as a number)", SetsBoundsTest::oneForEachCost);
        Check.sentence("13: by their costs: the k-th", SetsBoundsTest::byTheirCosts);
        Check.sentence("13: beaten by no lawful set", SetsBoundsTest::beatenByLawfulOnes);
        Check.sentence("13: NONE if there is none such", SetsBoundsTest::beyondTheFrontier);
        Check.sentence("13: the longest frontier", SetsBoundsTest::longestFrontier);
        Check.sentence("13: Illegal argument: k is below 0", SetsBoundsTest::frontierBelowZero);
        Check.end();
    }

    private static MeasureChoice chain() {
        MeasureChoice x = Check.equalHouse(12, 10, 1);
        for (int m = 0; m < 11; m++) {
            x.needs(m, m + 1, true);
        }
        return x;
    }

    private static void emptyAndFull() {
        for (int count = 1; count <= 12; count++) {
            MeasureChoice x = Check.equalHouse(count, 1, 1);
            Check.holds("lawful(0) of " + count, x.lawful(0));
            Check.holds("lawful of all " + count, x.lawful((1 << count) - 1));
            Check.holds("lawful of the last of " + count, x.lawful(1 << count - 1));
        }
        MeasureChoice y = Check.equalHouse(12, 1, 1);
        y.exclude(10, 11, true);
        y.needs(0, 10, true);
        Check.holds("lawful(0) always", y.lawful(0));
        Check.fails("lawful of all if two exclude", y.lawful(ALL));
        Check.holds("lawful of all but one of the two", y.lawful(2047));
        Check.fails("lawful of all but the needed one", y.lawful(ALL & ~(1 << 10)));
    }

    private static void bitOfNoMeasure() {
        for (int count = 0; count <= 12; count++) {
            MeasureChoice x = Check.equalHouse(count, 1, 1);
            for (int b = count; b < 31; b++) {
                int bit = 1 << b;
                int all = bit | (1 << count) - 1;
                Check.illegalArgument("lawful(" + bit + ") of " + count, () -> x.lawful(bit));
                Check.illegalArgument("lawful(" + all + ") of " + count, () -> x.lawful(all));
            }
            Check.illegalArgument("lawful(MAX) of " + count, () -> x.lawful(MOST));
        }
    }

    private static void setBelowZero() {
        for (int count = 0; count <= 12; count++) {
            MeasureChoice x = Check.equalHouse(count, 1, 1);
            for (int set : new int[] {-1, -2, -4096, LEAST, LEAST + 1, LEAST + ALL}) {
                Check.illegalArgument("lawful(" + set + ") of " + count, () -> x.lawful(set));
            }
        }
    }

    private static void whatIsTold() {
        MeasureChoice x = Check.house(3, 10000, 10000, 4);
        Check.same("told(0, 0)", x.told(0, 0), 0);
        Check.same("told(0, 1)", x.told(0, 1), 0);
        Check.same("told(1, 0)", x.told(1, 0), 3);
        Check.same("told(1, 1)", x.told(1, 1), 10000);
        Check.same("told(3, 0)", x.told(3, 0), 10003);
        Check.same("told(3, 1)", x.told(3, 1), 10004);
    }

    private static void toldUnlawful() {
        MeasureChoice x = Check.house(3, 10, 4, 20, 5, 30);
        x.bonus(0, 1, 7);
        x.exclude(0, 1, true);
        x.needs(0, 2, true);
        Check.same("cost of what excludes each other", x.told(3, 0), 7);
        Check.same("gain of what excludes each other", x.told(3, 1), 37);
        Check.same("cost of what lacks a needed one", x.told(1, 0), 3);
        Check.same("gain of what lacks a needed one", x.told(1, 1), 10);
        Check.same("gain of all", x.told(7, 1), 67);
    }

    private static void toldWrong() {
        MeasureChoice x = Check.house(3, 10, 4, 20);
        for (int set : new int[] {LEAST, -1, 4, 5, 7, 4096, MOST}) {
            Check.illegalArgument("told(" + set + ", 0)", () -> x.told(set, 0));
            Check.illegalArgument("told(" + set + ", 1)", () -> x.told(set, 1));
        }
        for (int what : new int[] {LEAST, -1, 2, 3, MOST}) {
            Check.illegalArgument("told(3, " + what + ")", () -> x.told(3, what));
            Check.illegalArgument("told(0, " + what + ")", () -> x.told(0, what));
            Check.illegalArgument("told(4, " + what + ")", () -> x.told(4, what));
        }
    }

    private static void closureIsLeast() {
        MeasureChoice x = Check.equalHouse(12, 1, 1);
        for (int m = 0; m < 12; m++) {
            Check.same("closure(" + m + ") of one that needs none", x.closure(m), 1 << m);
        }
        for (int m = 1; m < 12; m++) {
            x.needs(m, 0, true);
        }
        Check.same("the needed one brings none that needs it", x.closure(0), 1);
        for (int m = 1; m < 12; m++) {
            Check.same("closure(" + m + ") of two", x.closure(m), 1 | 1 << m);
        }
        MeasureChoice y = Check.equalHouse(12, 1, 1);
        for (int m = 1; m < 12; m++) {
            y.needs(0, m, true);
        }
        Check.same("one that needs all others", y.closure(0), ALL);
        Check.same("one of the others", y.closure(11), 1 << 11);
    }

    /** The longest chain, upwards, downwards, and by a way between that goes to and fro. */
    private static void closureOfChains() {
        MeasureChoice up = chain();
        MeasureChoice down = Check.equalHouse(12, 1, 1);
        for (int m = 1; m < 12; m++) {
            down.needs(m, m - 1, true);
        }
        for (int m = 0; m < 12; m++) {
            Check.same("closure(" + m + ") upwards", up.closure(m), ALL & -(1 << m));
            Check.same("closure(" + m + ") downwards", down.closure(m), (2 << m) - 1);
        }
        int[] way = {5, 11, 0, 9, 2, 7, 4, 10, 1, 8, 3, 6};
        MeasureChoice x = Check.equalHouse(12, 1, 1);
        for (int i = 1; i < 12; i++) {
            x.needs(way[i - 1], way[i], true);
        }
        int set = 0;
        for (int i = 11; i >= 0; i--) {
            set |= 1 << way[i];
            Check.same("closure(" + way[i] + ") to and fro", x.closure(way[i]), set);
        }
        x.needs(way[5], way[6], false);
        Check.same("closure on a cut chain", x.closure(5), 0b101010100101);
    }

    private static void closureUnlawful() {
        MeasureChoice x = Check.equalHouse(3, 1, 1);
        x.needs(0, 1, true);
        x.needs(1, 2, true);
        x.exclude(0, 2, true);
        Check.same("closure(0) with two that exclude each other", x.closure(0), 7);
        Check.fails("it is not lawful", x.lawful(7));
        x.exclude(0, 1, true);
        Check.same("closure(0) with a needed and excluded one", x.closure(0), 7);
        Check.same("closure(1) without them", x.closure(1), 6);
    }

    private static void bestAtTheBudget() {
        MeasureChoice x = Check.house(10, 5, 20, 9);
        Check.same("best(0)", x.best(0), 0);
        Check.same("one below a cost", x.best(9), 0);
        Check.same("just a cost", x.best(10), 1);
        Check.same("one below the other", x.best(19), 1);
        Check.same("just the other", x.best(20), 2);
        Check.same("one below both", x.best(29), 2);
        Check.same("just both", x.best(30), 3);
        MeasureChoice y = Check.greatestHouse();
        for (int m = 0; m <= 12; m++) {
            Check.same("just " + m + " measures", y.best(10000 * m), (1 << m) - 1);
            Check.same("one below the next", y.best(10000 * m + 9999), (1 << m) - 1);
        }
    }

    private static void bestOfNothing() {
        MeasureChoice x = Check.equalHouse(12, 1, 10000);
        Check.same("without a budget", x.best(0), 0);
        MeasureChoice y = Check.equalHouse(12, 1, 0);
        Check.same("none gains", y.best(120000), 0);
        MeasureChoice z = Check.house(5, 5, 5, 5);
        z.needs(0, 1, true);
        z.needs(1, 0, true);
        z.exclude(0, 1, true);
        Check.same("none is lawful", z.best(120000), 0);
    }

    private static void bestBelowZero() {
        MeasureChoice x = Check.house(10, 5);
        for (int budget : new int[] {-1, -10, -4096, LEAST, LEAST + 1}) {
            Check.illegalArgument("best(" + budget + ")", () -> x.best(budget));
        }
        Check.same("best(0)", x.best(0), 0);
    }

    private static void bestOfAll() {
        MeasureChoice x = Check.greatestHouse();
        for (int budget : new int[] {120000, 120001, 400000, 1000000, 1000001, 1 << 30, MOST}) {
            Check.same("best(" + budget + ")", x.best(budget), ALL);
        }
        Check.same("best(119999)", x.best(119999), 2047);
    }

    private static void bestIsLawful() {
        MeasureChoice x = chain();
        for (int m = 0; m <= 12; m++) {
            int last = ALL & -(1 << 12 - m);
            Check.same("the last " + m + " of a chain", x.best(10 * m), last);
            Check.same("and one below the next", x.best(10 * m + 9), last);
        }
        MeasureChoice y = Check.equalHouse(12, 10, 1);
        for (int a = 0; a < 12; a++) {
            for (int b = 0; b < a; b++) {
                y.exclude(a, b, true);
            }
        }
        Check.same("one of twelve that exclude each other", y.best(MOST), 1);
        y.change(11, 10000, 2);
        Check.same("the one that gains most", y.best(MOST), 1 << 11);
        Check.same("one below its cost", y.best(9999), 1);
    }

    private static void budgetForSoMuch() {
        MeasureChoice x = Check.house(10, 5, 20, 9);
        Check.same("budget(5), just so much", x.budget(5), 10);
        Check.same("budget(4), more than asked", x.budget(4), 10);
        Check.same("budget(6), one above", x.budget(6), 20);
        Check.same("budget(9)", x.budget(9), 20);
        Check.same("budget(10)", x.budget(10), 30);
        Check.same("budget(14), all", x.budget(14), 30);
        MeasureChoice y = Check.house(10, 5, 8, 5, 9, 7);
        Check.same("the cheapest that gains it", y.budget(5), 8);
        Check.same("a dearer one that gains more", y.budget(6), 9);
    }

    private static void budgetForNothing() {
        MeasureChoice x = Check.house(10, 5);
        for (int gain : new int[] {LEAST, LEAST + 1, -330000, -1, 0}) {
            Check.same("budget(" + gain + ")", x.budget(gain), 0);
        }
        Check.same("budget(1)", x.budget(1), 10);
        MeasureChoice y = Check.house(1, 0, 1, 0);
        y.bonus(0, 1, -5000);
        Check.same("budget(-5000)", y.budget(-5000), 0);
        Check.same("budget(0)", y.budget(0), 0);
    }

    private static void budgetForTooMuch() {
        MeasureChoice x = Check.house(10, 5, 20, 9);
        Check.same("budget(15), one above all", x.budget(15), NONE);
        Check.same("budget(MAX)", x.budget(MOST), NONE);
        MeasureChoice y = Check.greatestHouse();
        Check.same("budget(450000), the most of all", y.budget(450000), 120000);
        Check.same("budget(450001)", y.budget(450001), NONE);
        MeasureChoice z = Check.equalHouse(12, 1, 0);
        Check.same("budget(1) where none gains", z.budget(1), NONE);
    }

    private static void budgetLawful() {
        MeasureChoice x = Check.house(10, 5, 20, 9);
        x.exclude(0, 1, true);
        Check.same("budget(9)", x.budget(9), 20);
        Check.same("budget(10) of both", x.budget(10), NONE);
        x.exclude(0, 1, false);
        x.needs(0, 1, true);
        Check.same("budget(5) without the one that needs", x.budget(5), 20);
        Check.same("budget(10) of both", x.budget(10), 30);
        MeasureChoice y = chain();
        for (int m = 0; m <= 12; m++) {
            Check.same("budget(" + m + ") of a chain", y.budget(m), 10 * m);
        }
        Check.same("budget(13) of a chain", y.budget(13), NONE);
    }

    private static void worthOfMore() {
        MeasureChoice x = Check.house(10, 5, 20, 9);
        Check.same("one below a cost", x.worth(0, 9), 0);
        Check.same("just a cost", x.worth(0, 10), 5);
        Check.same("the one that lacks", x.worth(9, 1), 5);
        Check.same("from just a cost to one below", x.worth(10, 9), 0);
        Check.same("from just a cost to the other", x.worth(10, 10), 4);
        Check.same("from just a cost to both", x.worth(10, 20), 9);
        Check.same("from all", x.worth(30, 999970), 0);
        MeasureChoice y = Check.greatestHouse();
        Check.same("worth(0, 120000)", y.worth(0, 120000), 450000);
        Check.same("worth(0, 119999)", y.worth(0, 119999), 385000);
        Check.same("worth(119999, 1)", y.worth(119999, 1), 65000);
        y.exclude(0, 1, true);
        Check.same("of lawful sets alone", y.worth(0, 120000), 385000);
    }

    private static void worthOfNoMore() {
        MeasureChoice x = Check.house(10, 5, 20, 9);
        for (int budget : new int[] {0, 9, 10, 30, 1000000}) {
            Check.same("worth(" + budget + ", 0)", x.worth(budget, 0), 0);
        }
    }

    private static void worthBelowZero() {
        MeasureChoice x = Check.house(10, 5, 20, 9);
        int[][] wrong = {{-1, 0}, {0, -1}, {-1, -1}, {-1, 30}, {30, -1}, {30, -30}, {-30, 30},
            {1000001, -1}, {-1, 1000001}, {LEAST, 0}, {0, LEAST}, {LEAST, LEAST}, {LEAST, MOST},
            {MOST, LEAST}};
        for (int[] pair : wrong) {
            Check.illegalArgument("worth(" + pair[0] + ", " + pair[1] + ")",
                    () -> x.worth(pair[0], pair[1]));
        }
    }

    private static void worthTogether() {
        MeasureChoice x = Check.house(10, 5, 20, 9);
        Check.same("worth(0, 1000000)", x.worth(0, 1000000), 14);
        Check.same("worth(1000000, 0)", x.worth(1000000, 0), 0);
        Check.same("worth(1, 999999)", x.worth(1, 999999), 14);
        Check.same("worth(10, 999990)", x.worth(10, 999990), 9);
        Check.same("worth(500000, 500000)", x.worth(500000, 500000), 0);
        int[][] wrong = {{0, 1000001}, {1000001, 0}, {1, 1000000}, {1000000, 1}, {500000, 500001},
            {500001, 500000}, {999999, 2}, {2, 999999}, {1000000, 1000000}};
        for (int[] pair : wrong) {
            Check.illegalArgument("worth(" + pair[0] + ", " + pair[1] + ")",
                    () -> x.worth(pair[0], pair[1]));
        }
    }

    private static void worthWraps() {
        MeasureChoice x = Check.house(10, 5, 20, 9);
        int[][] wrong = {{MOST, 0}, {0, MOST}, {MOST, 1}, {1, MOST}, {MOST, MOST}, {1 << 30, 1 << 30},
            {MOST, 1000000}, {1000000, MOST}, {MOST - 10, 11}, {1 << 30, MOST}};
        for (int[] pair : wrong) {
            Check.illegalArgument("worth(" + pair[0] + ", " + pair[1] + ")",
                    () -> x.worth(pair[0], pair[1]));
        }
    }

    private static void oneForEachCost() {
        MeasureChoice x = Check.equalHouse(12, 10, 3);
        for (int k = 0; k <= 12; k++) {
            Check.same("the first " + k + " of twelve equal ones", x.frontier(k), (1 << k) - 1);
        }
        Check.same("no more costs", x.frontier(13), NONE);
        MeasureChoice y = Check.house(6, 6, 4, 4, 10, 10);
        Check.frontier("3 before 4, and 5 and 6 apart", y, 0, 2, 1, 3, 6, 5, 7);
        y.exclude(0, 1, true);
        Check.frontier("4 when 3 is not lawful", y, 0, 2, 1, 4, 6, 5);
    }

    private static void byTheirCosts() {
        MeasureChoice x = Check.house(400, 40, 30, 30, 2, 20);
        Check.frontier("from the cheapest up", x, 0, 4, 2, 6, 5, 3, 7);
        x.change(0, 1, 1);
        Check.frontier("after a change", x, 0, 1, 4, 5, 2, 3, 6, 7);
        x.change(0, 2, 21);
        Check.frontier("of one cost the one that gains more", x, 0, 1, 5, 3, 7);
    }

    private static void beatenByLawfulOnes() {
        MeasureChoice x = Check.house(10, 5, 5, 9, 20, 6);
        Check.frontier("all are lawful", x, 0, 2, 3, 6, 7);
        x.needs(1, 2, true);
        Check.frontier("the best one needs another", x, 0, 1, 4, 6, 7);
        x.exclude(1, 2, true);
        Check.frontier("the best one is never lawful", x, 0, 1, 4, 5);
        x.bonus(0, 2, -5);
        Check.frontier("both gain as much as one", x, 0, 1, 4);
    }

    private static void beyondTheFrontier() {
        MeasureChoice x = Check.house(10, 5);
        Check.same("frontier(0), the empty set", x.frontier(0), 0);
        Check.same("frontier(1), the last", x.frontier(1), 1);
        for (int k : new int[] {2, 3, 12, 13, 4095, 4096, 4097, 65536, 1 << 30, MOST}) {
            Check.same("frontier(" + k + ")", x.frontier(k), NONE);
        }
        x.change(0, 10, 0);
        Check.same("frontier(1) where none gains", x.frontier(1), NONE);
    }

    /** With powers of two no two sets cost the same and none is beaten: all 4096 are there. */
    private static void longestFrontier() {
        MeasureChoice x = new MeasureChoice();
        for (int m = 0; m < 12; m++) {
            x.measure(1 << m, 1 << m);
        }
        for (int k : new int[] {0, 1, 2, 3, 4, 5, 11, 12, 13, 255, 256, 2047, 2048, 4094, 4095}) {
            Check.same("frontier(" + k + ")", x.frontier(k), k);
            Check.same("best(" + k + ")", x.best(k), k);
            Check.same("budget(" + k + ")", x.budget(k), k);
        }
        Check.same("frontier(4096)", x.frontier(4096), NONE);
        Check.same("frontier(MAX)", x.frontier(MOST), NONE);
        Check.same("worth(1, 4094)", x.worth(1, 4094), 4094);
    }

    private static void frontierBelowZero() {
        MeasureChoice x = Check.house(10, 5);
        for (int k : new int[] {-1, -2, -4096, LEAST, LEAST + 1}) {
            Check.illegalArgument("frontier(" + k + ")", () -> x.frontier(k));
        }
        MeasureChoice y = new MeasureChoice();
        Check.illegalArgument("frontier(-1) without measures", () -> y.frontier(-1));
    }
}
