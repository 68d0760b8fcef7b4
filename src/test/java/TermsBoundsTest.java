/**
 * A test for each sentence of 'Terms' that names a boundary case. What wrong calls throw and leave
 * alone is in RefusedCallsTest, call by call.
 */
public final class TermsBoundsTest {
    private static final int ALL = 4095;
    private static final int LEAST = Integer.MIN_VALUE;
    private static final int MOST = Integer.MAX_VALUE;

    public static void main(String[] args) {
        Check.sentence("MEASURES are 0 .. 11, as they come", TermsBoundsTest::measuresAsTheyCome);
        Check.sentence("a COST (1 .. 10000)", TermsBoundsTest::costBounds);
        Check.sentence("a GAIN (0 .. 10000)", TermsBoundsTest::gainBounds);
        Check.sentence("A pair may EXCLUDE each other", TermsBoundsTest::everyPairMayExclude);
        Check.sentence("a measure may NEED another one", TermsBoundsTest::everyPairMayNeed);
        Check.sentence("NEED another one (also in rings)", TermsBoundsTest::ringsOfAllSizes);
        Check.sentence("NEED (also in rings), two rings", TermsBoundsTest::ringsThatTouch);
        Check.sentence("a pair has a BONUS (-5000 .. 5000)", TermsBoundsTest::bonusBounds);
        Check.sentence("BONUS: 0 at first", TermsBoundsTest::bonusAtFirst);
        Check.sentence("LAWFUL if no two in it exclude each other", TermsBoundsTest::noTwoExclude);
        Check.sentence("LAWFUL if whatever one in it needs is in it", TermsBoundsTest::allNeededIsIn);
        Check.sentence("a pair that is needed and excluded", TermsBoundsTest::neededAndExcluded);
        Check.sentence("It COSTS the sum of the costs", TermsBoundsTest::sumOfCosts);
        Check.sentence("it GAINS the sum of gains and bonuses", TermsBoundsTest::sumOfGains);
        Check.sentence("GAINS: it may be below 0", TermsBoundsTest::gainBelowZero);
        Check.sentence("Sets are told as bits (bit m for measure m)", TermsBoundsTest::bits);
        Check.sentence("THE BEST gains most", TermsBoundsTest::bestGainsMost);
        Check.sentence("THE BEST: of these the one that costs least", TermsBoundsTest::bestCostsLeast);
        Check.sentence("THE BEST: of these the least as a number", TermsBoundsTest::bestIsLeast);
        Check.sentence("BEATEN: as much gain, a lower cost", TermsBoundsTest::beatenByCheaper);
        Check.sentence("BEATEN: more gain, as much cost", TermsBoundsTest::beatenByBetter);
        Check.sentence("BEATEN: but not both the same", TermsBoundsTest::notBeatenByTheSame);
        Check.sentence("BEATEN: more gain for a higher cost", TermsBoundsTest::notBeatenByDearer);
        Check.sentence("NONE = -1: There is none", TermsBoundsTest::thereIsNone);
        Check.sentence("at most 512 calls", TermsBoundsTest::allCallsOfAnObject);
        Check.end();
    }

    private static void measuresAsTheyCome() {
        MeasureChoice x = new MeasureChoice();
        for (int m = 0; m <= 11; m++) {
            int next = m;
            Check.illegalArgument("closure(" + m + ") before it comes", () -> x.closure(next));
            Check.illegalArgument("measure(0, 0)", () -> x.measure(0, 0));
            Check.same("measure", x.measure(100 + m, 200 + m), m);
            Check.same("closure(" + m + ")", x.closure(m), 1 << m);
        }
        for (int m = 0; m <= 11; m++) {
            Check.same("the cost of " + m, x.told(1 << m, 0), 100 + m);
            Check.same("the gain of " + m, x.told(1 << m, 1), 200 + m);
        }
        Check.illegalArgument("closure(12)", () -> x.closure(12));
        Check.illegalArgument("closure(-1)", () -> x.closure(-1));
    }

    private static void costBounds() {
        MeasureChoice x = Check.house(1, 7, 10000, 7);
        Check.same("cost 1", x.told(1, 0), 1);
        Check.same("cost 10000", x.told(2, 0), 10000);
        x.change(0, 10000, 7);
        x.change(1, 1, 7);
        Check.same("changed to cost 10000", x.told(1, 0), 10000);
        Check.same("changed to cost 1", x.told(2, 0), 1);
        for (int cost : new int[] {LEAST, -1, 0, 10001, MOST}) {
            Check.illegalArgument("measure(" + cost + ", 7)", () -> x.measure(cost, 7));
            Check.illegalArgument("change(0, " + cost + ", 7)", () -> x.change(0, cost, 7));
        }
    }

    private static void gainBounds() {
        MeasureChoice x = Check.house(7, 0, 7, 10000);
        Check.same("gain 0", x.told(1, 1), 0);
        Check.same("gain 10000", x.told(2, 1), 10000);
        x.change(0, 7, 10000);
        x.change(1, 7, 0);
        Check.same("changed to gain 10000", x.told(1, 1), 10000);
        Check.same("changed to gain 0", x.told(2, 1), 0);
        for (int gain : new int[] {LEAST, -1, 10001, MOST}) {
            Check.illegalArgument("measure(7, " + gain + ")", () -> x.measure(7, gain));
            Check.illegalArgument("change(0, 7, " + gain + ")", () -> x.change(0, 7, gain));
        }
    }

    /** Of all pairs of twelve this one, and this one alone, is not lawful. */
    private static void everyPairMayExclude() {
        for (int a = 0; a < 12; a++) {
            for (int b = 0; b < 12; b++) {
                if (a != b) {
                    MeasureChoice x = Check.equalHouse(12, 1, 1);
                    Check.fails("did " + a + " exclude " + b, x.exclude(a, b, true));
                    Check.holds("does " + b + " exclude " + a, x.exclude(b, a, true));
                    onlyPairOut(x, 1 << a | 1 << b);
                }
            }
        }
    }

    private static void onlyPairOut(MeasureChoice x, int pair) {
        for (int a = 0; a < 12; a++) {
            for (int b = 0; b <= a; b++) {
                int set = 1 << a | 1 << b;
                Check.same("lawful(" + set + ")", x.lawful(set) ? 1 : 0, set == pair ? 0 : 1);
            }
        }
        Check.fails("lawful(" + ALL + ")", x.lawful(ALL));
    }

    private static void everyPairMayNeed() {
        for (int a = 0; a < 12; a++) {
            for (int b = 0; b < 12; b++) {
                if (a != b) {
                    MeasureChoice x = Check.equalHouse(12, 1, 1);
                    Check.fails("did " + a + " need " + b, x.needs(a, b, true));
                    Check.fails("does " + b + " need " + a, x.needs(b, a, false));
                    onlyNeed(x, a, b);
                }
            }
        }
    }

    private static void onlyNeed(MeasureChoice x, int a, int b) {
        for (int m = 0; m < 12; m++) {
            Check.same("lawful(" + (1 << m) + ")", x.lawful(1 << m) ? 1 : 0, m == a ? 0 : 1);
            Check.same("closure(" + m + ")", x.closure(m), m == a ? 1 << a | 1 << b : 1 << m);
        }
        Check.holds("lawful of both", x.lawful(1 << a | 1 << b));
        Check.fails("lawful of all but the needed one", x.lawful(ALL & ~(1 << b)));
        Check.holds("lawful of all but the needing one", x.lawful(ALL & ~(1 << a)));
        Check.holds("lawful of all", x.lawful(ALL));
    }

    private static MeasureChoice ring(int size) {
        MeasureChoice x = Check.equalHouse(size, 10, 3);
        for (int m = 0; m < size; m++) {
            x.needs(m, (m + 1) % size, true);
        }
        return x;
    }

    private static void ringsOfAllSizes() {
        for (int size = 2; size <= 12; size++) {
            MeasureChoice x = ring(size);
            int all = (1 << size) - 1;
            for (int m = 0; m < size; m++) {
                Check.same("closure in a ring of " + size, x.closure(m), all);
                Check.fails("lawful without one", x.lawful(all & ~(1 << m)));
            }
            Check.holds("lawful(0) with a ring", x.lawful(0));
            Check.holds("lawful of a ring", x.lawful(all));
            Check.same("best just below a ring", x.best(10 * size - 1), 0);
            Check.same("best with a ring", x.best(10 * size), all);
            Check.same("budget for a ring", x.budget(1), 10 * size);
            Check.frontier("a ring", x, 0, all);
            x.needs(size - 1, 0, false);
            Check.same("closure at an opened ring's end", x.closure(size - 1), 1 << size - 1);
            Check.same("closure at an opened ring's start", x.closure(0), all);
        }
    }

    /** Two rings of three; a need from one into the other brings all six, but not the other way. */
    private static void ringsThatTouch() {
        MeasureChoice x = Check.equalHouse(7, 1, 1);
        int[][] needs = {{0, 2}, {2, 4}, {4, 0}, {1, 3}, {3, 5}, {5, 1}, {6, 0}};
        for (int[] pair : needs) {
            x.needs(pair[0], pair[1], true);
        }
        Check.same("closure(0), rings apart", x.closure(0), 0b10101);
        Check.same("closure(5), rings apart", x.closure(5), 0b101010);
        Check.same("closure(6), into a ring", x.closure(6), 0b1010101);
        x.needs(2, 5, true);
        Check.same("closure(0), rings touch", x.closure(0), 0b111111);
        Check.same("closure(5), rings touch", x.closure(5), 0b101010);
        Check.fails("lawful(0b10101), rings touch", x.lawful(0b10101));
        Check.holds("lawful(0b101010), rings touch", x.lawful(0b101010));
        x.needs(5, 2, true);
        Check.same("closure(5), rings in one", x.closure(5), 0b111111);
        Check.frontier("rings in one", x, 0, 0b111111, 0b1111111);
    }

    private static void bonusBounds() {
        MeasureChoice x = Check.equalHouse(12, 1, 10000);
        Check.same("bonus(0, 11, -5000)", x.bonus(0, 11, -5000), 0);
        Check.same("a gain with -5000", x.told(1 | 1 << 11, 1), 15000);
        Check.same("bonus(0, 11, 5000)", x.bonus(0, 11, 5000), -5000);
        Check.same("a gain with 5000", x.told(1 | 1 << 11, 1), 25000);
        for (int amount : new int[] {LEAST, -5001, 5001, MOST}) {
            Check.illegalArgument("bonus(0, 11, " + amount + ")", () -> x.bonus(0, 11, amount));
        }
        Check.same("bonus(11, 0, -4999)", x.bonus(11, 0, -4999), 5000);
        Check.same("bonus(11, 0, 4999)", x.bonus(11, 0, 4999), -4999);
    }

    private static void bonusAtFirst() {
        MeasureChoice x = Check.equalHouse(12, 1, 0);
        for (int a = 0; a < 12; a++) {
            for (int b = 0; b < a; b++) {
                Check.same("gain of a pair at first", x.told(1 << a | 1 << b, 1), 0);
                Check.same("bonus(" + a + ", " + b + ") at first", x.bonus(a, b, 1 + a + b), 0);
                Check.same("bonus(" + b + ", " + a + ") then", x.bonus(b, a, 0), 1 + a + b);
            }
        }
    }

    private static void noTwoExclude() {
        MeasureChoice x = Check.equalHouse(12, 1, 1);
        for (int m = 1; m < 12; m++) {
            x.exclude(0, m, true);
        }
        Check.holds("lawful(0), the empty set", x.lawful(0));
        Check.holds("lawful(1), the one that excludes", x.lawful(1));
        Check.holds("lawful of all that are excluded", x.lawful(ALL & ~1));
        Check.fails("lawful of all", x.lawful(ALL));
        for (int m = 1; m < 12; m++) {
            Check.fails("lawful of 0 and " + m, x.lawful(1 | 1 << m));
        }
        for (int m = 1; m < 12; m++) {
            x.exclude(m, 0, false);
        }
        Check.holds("lawful of all once none excludes", x.lawful(ALL));
    }

    private static void allNeededIsIn() {
        MeasureChoice x = Check.equalHouse(12, 1, 1);
        for (int m = 1; m < 12; m++) {
            x.needs(0, m, true);
        }
        Check.holds("lawful(0), the empty set", x.lawful(0));
        Check.holds("lawful of all", x.lawful(ALL));
        Check.holds("lawful of all that are needed", x.lawful(ALL & ~1));
        Check.fails("lawful of the needing one alone", x.lawful(1));
        for (int m = 1; m < 12; m++) {
            Check.fails("lawful without the needed " + m, x.lawful(ALL & ~(1 << m)));
        }
        MeasureChoice y = Check.equalHouse(3, 1, 1);
        y.needs(0, 1, true);
        y.needs(1, 2, true);
        Check.fails("what the needed one needs is not there", y.lawful(0b011));
        Check.fails("the one between is not there", y.lawful(0b101));
        Check.holds("the whole chain", y.lawful(0b111));
    }

    private static void neededAndExcluded() {
        MeasureChoice x = Check.house(1, 9, 1, 1);
        x.needs(0, 1, true);
        x.exclude(1, 0, true);
        Check.fails("the needing one alone", x.lawful(1));
        Check.holds("the needed one alone", x.lawful(2));
        Check.fails("both", x.lawful(3));
        Check.same("closure(0), lawful or not", x.closure(0), 3);
        Check.same("best", x.best(MOST), 2);
        Check.same("budget(9)", x.budget(9), MeasureChoice.NONE);
        Check.frontier("needed and excluded", x, 0, 2);
        x.year(0, 100000);
        Check.plan("needed and excluded", x, 1, 2);
    }

    private static void sumOfCosts() {
        MeasureChoice x = Check.equalHouse(12, 10000, 0);
        Check.same("the empty set's cost", x.told(0, 0), 0);
        Check.same("the full set's cost", x.told(ALL, 0), 120000);
        Check.same("all but the first", x.told(ALL - 1, 0), 110000);
        Check.same("all but the last", x.told(2047, 0), 110000);
        MeasureChoice y = Check.house(1, 0, 20, 0, 300, 0, 4000, 0);
        Check.same("bonuses cost nothing", y.bonus(0, 3, 5000), 0);
        Check.same("0, 1 and 3", y.told(0b1011, 0), 4021);
        Check.same("1 and 2", y.told(0b0110, 0), 320);
    }

    private static void sumOfGains() {
        MeasureChoice x = Check.greatestHouse();
        Check.same("the empty set's gain", x.told(0, 1), 0);
        Check.same("the full set's gain", x.told(ALL, 1), 450000);
        Check.same("all but the last", x.told(2047, 1), 385000);
        Check.same("the last alone", x.told(2048, 1), 10000);
        MeasureChoice y = Check.house(1, 1, 1, 20, 1, 300, 1, 4000);
        y.bonus(0, 1, 5);
        y.bonus(1, 2, -7);
        y.bonus(3, 0, 9);
        Check.same("one of each pair alone", y.told(0b0101, 1), 301);
        Check.same("one pair", y.told(0b0011, 1), 26);
        Check.same("another pair", y.told(0b1001, 1), 4010);
        Check.same("all pairs", y.told(0b1111, 1), 4328);
    }

    private static void gainBelowZero() {
        MeasureChoice x = Check.equalHouse(12, 1, 0);
        for (int a = 0; a < 12; a++) {
            for (int b = 0; b < a; b++) {
                x.bonus(a, b, -5000);
            }
        }
        Check.same("the full set's gain", x.told(ALL, 1), -330000);
        Check.same("a pair's gain", x.told(0b11, 1), -5000);
        Check.holds("it is lawful all the same", x.lawful(ALL));
        Check.same("but nothing is better", x.best(MOST), 0);
        Check.same("and reaches it for nothing", x.budget(-330000), 0);
        Check.frontier("below 0", x, 0);
        for (int m = 1; m < 12; m++) {
            x.needs(m, m - 1, true);
        }
        x.needs(0, 11, true);
        Check.same("a ring below 0 is left", x.best(12), 0);
        Check.same("no worth below 0", x.worth(0, 12), 0);
    }

    private static void bits() {
        MeasureChoice x = Check.equalHouse(12, 1, 0);
        for (int m = 0; m < 12; m++) {
            x.change(m, 2, 1);
            Check.same("the set with the one that gains", x.best(2), 1 << m);
            Check.same("its gain", x.told(1 << m, 1), 1);
            x.change(m, 2, 0);
        }
    }

    private static void bestGainsMost() {
        MeasureChoice x = Check.house(10, 9, 1, 8);
        Check.same("one more of gain at ten times the cost", x.best(10), 1);
        x.change(0, 10, 8);
        Check.same("as much gain at ten times the cost", x.best(10), 2);
        x.change(0, 10, 7);
        Check.same("less gain at ten times the cost", x.best(10), 2);
    }

    private static void bestCostsLeast() {
        MeasureChoice x = Check.house(6, 10, 5, 10, 3, 0);
        Check.same("the cheaper one, though its number is higher", x.best(10), 2);
        x.bonus(0, 1, -10);
        Check.same("not both if both gain no more", x.best(100), 2);
        x.bonus(0, 1, -9);
        Check.same("both if they gain one more", x.best(100), 3);
        MeasureChoice y = Check.house(1, 0, 1, 0);
        Check.same("nothing rather than what gains nothing", y.best(100), 0);
    }

    private static void bestIsLeast() {
        Check.same("1 before 2", Check.house(5, 5, 5, 5).best(9), 1);
        Check.same("3 before 4", Check.house(6, 6, 4, 4, 10, 10).best(10), 3);
        Check.same("1 before 6", Check.house(10, 10, 4, 4, 6, 6).best(10), 1);
        Check.same("2 before 5", Check.house(3, 3, 10, 10, 7, 7).best(10), 2);
        Check.same("the first six of twelve", Check.equalHouse(12, 10, 10).best(69), 63);
        MeasureChoice x = Check.equalHouse(12, 10, 10);
        x.exclude(0, 1, true);
        Check.same("the first six that are lawful", x.best(69), 0b1111101);
    }

    private static void beatenByCheaper() {
        MeasureChoice x = Check.house(6, 10, 5, 10);
        x.exclude(0, 1, true);
        Check.frontier("one less of cost", x, 0, 2);
        x.change(0, 4, 10);
        Check.frontier("the other one is cheaper now", x, 0, 1);
    }

    private static void beatenByBetter() {
        MeasureChoice x = Check.house(5, 10, 5, 11);
        x.exclude(0, 1, true);
        Check.frontier("one more of gain", x, 0, 2);
        x.change(0, 5, 12);
        Check.frontier("the other one gains more now", x, 0, 1);
    }

    private static void notBeatenByTheSame() {
        MeasureChoice x = Check.house(5, 10, 5, 10);
        x.exclude(0, 1, true);
        Check.frontier("the same cost and gain", x, 0, 1);
        x.change(1, 5, 9);
        Check.frontier("the least number does not count before gain", x, 0, 1);
    }

    private static void notBeatenByDearer() {
        MeasureChoice x = Check.house(5, 10, 6, 11);
        x.exclude(0, 1, true);
        Check.frontier("more gain for more", x, 0, 1, 2);
        x.change(1, 6, 10);
        Check.frontier("the same gain for more", x, 0, 1);
        x.change(1, 6, 9);
        Check.frontier("less gain for more", x, 0, 1);
    }

    private static void thereIsNone() {
        MeasureChoice x = Check.house(5, 10);
        Check.same("NONE", MeasureChoice.NONE, -1);
        Check.same("budget(11)", x.budget(11), -1);
        Check.same("frontier(2)", x.frontier(2), -1);
    }

    /** 12 calls make measures, 4 set years, and 62 rounds of 8 calls change and ask: 512 in all. */
    private static void allCallsOfAnObject() {
        MeasureChoice x = Check.equalHouse(12, 10, 10);
        Check.budgets(x, 10, 10, 10, 10);
        for (int round = 0; round < 62; round++) {
            int m = round % 6;
            x.change(m, 9, 20 + round);
            Check.same("best in round " + round, x.best(10), 1 << m);
            Check.same("budget in round " + round, x.budget(20 + round), 9);
            Check.same("frontier in round " + round, x.frontier(1), 1 << m);
            Check.same("plan in round " + round, x.plan(1, 0), 1 << m);
            Check.same("planned in round " + round, x.planned(1), 20 + round);
            Check.illegalArgument("a refused call", () -> x.worth(-1, 0));
            x.change(m, 10, 10);
        }
    }
}
