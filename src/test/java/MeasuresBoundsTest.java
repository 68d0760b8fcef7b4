/**
 * A test for each boundary case that the promises 1 to 6 name. That wrong calls throw and change
 * nothing is in RefusedCallsTest, call by call.
 */
public final class MeasuresBoundsTest {
    private static final int ALL = 4095;
    private static final int MOST = Integer.MAX_VALUE;

    public static void main(String[] args) {
        Check.sentence("1: No measures: no number is one's", MeasuresBoundsTest::noNumberIsOnes);
        Check.sentence("1: No measures: only the empty set", MeasuresBoundsTest::onlyTheEmptySet);
        Check.sentence("1: No measures: empty plans", MeasuresBoundsTest::emptyPlans);
        Check.sentence("1: No measures: each object anew", MeasuresBoundsTest::eachObjectAnew);
        Check.sentence("2: A measure: its number", MeasuresBoundsTest::itsNumber);
        Check.sentence("2: a new measure is alone", MeasuresBoundsTest::newOneIsAlone);
        Check.sentence("2: illegal state: there are 12", MeasuresBoundsTest::thereAreTwelve);
        Check.sentence("2: Illegal argument before illegal state", MeasuresBoundsTest::argumentFirst);
        Check.sentence("3: A measure's cost and gain anew", MeasuresBoundsTest::changeEach);
        Check.sentence("3: change at the bounds", MeasuresBoundsTest::changeAtTheBounds);
        Check.sentence("3: change of the last one that is there", MeasuresBoundsTest::changeTheLast);
        Check.sentence("4: Two exclude each other, or do not", MeasuresBoundsTest::excludeOnAndOff);
        Check.sentence("4: whether they did, in both orders", MeasuresBoundsTest::excludeBothOrders);
        Check.sentence("4: Illegal argument: also if both are one", MeasuresBoundsTest::excludeOne);
        Check.sentence("5: A measure needs another one, or does not", MeasuresBoundsTest::needOnAndOff);
        Check.sentence("5: whether it did, each way of its own", MeasuresBoundsTest::needEachWay);
        Check.sentence("5: Illegal argument: also if both are one", MeasuresBoundsTest::needOne);
        Check.sentence("6: A pair's bonus: what it was", MeasuresBoundsTest::bonusAsItWas);
        Check.sentence("6: bonus: in both orders", MeasuresBoundsTest::bonusBothOrders);
        Check.sentence("6: Illegal argument: also if both are one", MeasuresBoundsTest::bonusOfOne);
        Check.end();
    }

    private static void noNumberIsOnes() {
        MeasureChoice x = new MeasureChoice();
        for (int m = 0; m < 12; m++) {
            int none = m;
            int other = (m + 1) % 12;
            Check.illegalArgument("change(" + m + ")", () -> x.change(none, 1, 0));
            Check.illegalArgument("closure(" + m + ")", () -> x.closure(none));
            Check.illegalArgument("exclude(" + m + ")", () -> x.exclude(none, other, true));
            Check.illegalArgument("needs(" + m + ")", () -> x.needs(none, other, true));
            Check.illegalArgument("bonus(" + m + ")", () -> x.bonus(none, other, 1));
            Check.illegalArgument("lawful(" + (1 << m) + ")", () -> x.lawful(1 << none));
            Check.illegalArgument("told(" + (1 << m) + ")", () -> x.told(1 << none, 0));
        }
    }

    private static void onlyTheEmptySet() {
        MeasureChoice x = new MeasureChoice();
        Check.holds("lawful(0)", x.lawful(0));
        Check.same("told(0, 0)", x.told(0, 0), 0);
        Check.same("told(0, 1)", x.told(0, 1), 0);
        Check.same("best(0)", x.best(0), 0);
        Check.same("best(MAX)", x.best(MOST), 0);
        Check.same("budget(MIN)", x.budget(Integer.MIN_VALUE), 0);
        Check.same("budget(0)", x.budget(0), 0);
        Check.same("budget(1)", x.budget(1), MeasureChoice.NONE);
        Check.same("worth(0, 0)", x.worth(0, 0), 0);
        Check.same("worth(0, 1000000)", x.worth(0, 1000000), 0);
        Check.frontier("no measures", x, 0);
        Check.same("frontier(MAX)", x.frontier(MOST), MeasureChoice.NONE);
    }

    private static void emptyPlans() {
        MeasureChoice x = new MeasureChoice();
        Check.plan("no measures", x, 0, 0);
        Check.plan("no measures", x, 0, 0, 0, 0, 0);
        for (int year = 0; year < 4; year++) {
            Check.same("a new object's year", x.year(year, 100000), 0);
        }
        Check.plan("money alone", x, 0, 0);
        Check.plan("money alone", x, 0, 0, 0, 0, 0);
    }

    private static void eachObjectAnew() {
        MeasureChoice full = Check.greatestHouse();
        full.exclude(0, 1, true);
        full.needs(2, 3, true);
        Check.budgets(full, 1, 2, 3, 4);
        String due = Picture.of(new MeasureChoice());
        MeasureChoice x = new MeasureChoice();
        Check.same("an object beside another one", Picture.of(x), due);
        MeasureChoice y = new MeasureChoice();
        for (int m = 0; m < 4; m++) {
            Check.same("its measures", y.measure(1, 0), m);
        }
        Check.holds("nothing holds between them", y.lawful(15));
        Check.holds("nor is one needed", y.lawful(4));
        Check.same("nor is there a bonus", y.told(15, 1), 0);
        Check.same("nor money", y.year(3, 0), 0);
    }

    private static void itsNumber() {
        MeasureChoice x = new MeasureChoice();
        for (int m = 0; m < 12; m++) {
            Check.same("measure(1, 0)", x.measure(1, 0), m);
            Check.holds("all of them", x.lawful((2 << m) - 1));
            int beyond = 2 << m;
            Check.illegalArgument("lawful(" + beyond + ")", () -> x.lawful(beyond));
        }
        MeasureChoice y = new MeasureChoice();
        for (int m = 0; m < 12; m++) {
            Check.same("measure(10000, 10000)", y.measure(10000, 10000), m);
        }
    }

    /** One that comes when others have been asked for counts from then on, and holds with none. */
    private static void newOneIsAlone() {
        MeasureChoice x = Check.house(5, 5);
        Check.budgets(x, 10, 0);
        Check.same("best(10) with one", x.best(10), 1);
        Check.plan("with one", x, 10, 1, 1);
        x.measure(5, 6);
        Check.same("best(10) with two", x.best(10), 3);
        Check.plan("with two", x, 22, 3, 3);
        Check.same("best(5) with two", x.best(5), 2);
        Check.fails("does it exclude", x.exclude(1, 0, false));
        Check.fails("does it need", x.needs(1, 0, false));
        Check.fails("is it needed", x.needs(0, 1, false));
        Check.same("has it a bonus", x.bonus(1, 0, 0), 0);
    }

    private static void thereAreTwelve() {
        MeasureChoice x = Check.equalHouse(11, 5, 5);
        Check.same("the twelfth", x.measure(5, 5), 11);
        Check.illegalState("the thirteenth", () -> x.measure(5, 5));
        Check.illegalState("the cheapest thirteenth", () -> x.measure(1, 0));
        Check.illegalState("the dearest thirteenth", () -> x.measure(10000, 10000));
        Check.illegalArgument("closure(12) after it", () -> x.closure(12));
        Check.same("the twelve are as they were", x.told(ALL, 0), 60);
        Check.same("and gain so", x.told(ALL, 1), 60);
        x.change(11, 6, 6);
        Check.same("the twelfth can be changed", x.told(2048, 0), 6);
        Check.illegalState("the thirteenth after that", () -> x.measure(5, 5));
    }

    private static void argumentFirst() {
        MeasureChoice x = Check.equalHouse(12, 5, 5);
        Check.illegalArgument("measure(0, 5)", () -> x.measure(0, 5));
        Check.illegalArgument("measure(10001, 5)", () -> x.measure(10001, 5));
        Check.illegalArgument("measure(5, -1)", () -> x.measure(5, -1));
        Check.illegalArgument("measure(5, 10001)", () -> x.measure(5, 10001));
        Check.illegalArgument("measure(MIN, MAX)", () -> x.measure(Integer.MIN_VALUE, MOST));
        Check.illegalState("measure(5, 5)", () -> x.measure(5, 5));
    }

    private static void changeEach() {
        for (int m = 0; m < 12; m++) {
            MeasureChoice x = Check.equalHouse(12, 50, 60);
            x.change(m, 7, 8);
            for (int other = 0; other < 12; other++) {
                Check.same("cost of " + other, x.told(1 << other, 0), other == m ? 7 : 50);
                Check.same("gain of " + other, x.told(1 << other, 1), other == m ? 8 : 60);
            }
            Check.same("best(7)", x.best(7), 1 << m);
            x.change(m, 50, 60);
            Check.same("best(7) after it is as before", x.best(7), 0);
            Check.same("best(50) after it is as before", x.best(50), 1);
        }
    }

    private static void changeAtTheBounds() {
        MeasureChoice x = Check.house(5, 5);
        x.change(0, 1, 0);
        Check.same("the least cost", x.told(1, 0), 1);
        Check.same("the least gain", x.told(1, 1), 0);
        Check.frontier("what gains nothing", x, 0);
        x.change(0, 10000, 10000);
        Check.same("the greatest cost", x.told(1, 0), 10000);
        Check.same("the greatest gain", x.told(1, 1), 10000);
        Check.same("best just below it", x.best(9999), 0);
        Check.same("best with it", x.best(10000), 1);
        x.change(0, 10000, 10000);
        Check.same("the same once more", x.told(1, 0), 10000);
    }

    private static void changeTheLast() {
        for (int count = 1; count < 12; count++) {
            MeasureChoice x = Check.equalHouse(count, 5, 5);
            int next = count;
            x.change(count - 1, 6, 7);
            Check.same("cost of the last", x.told(1 << count - 1, 0), 6);
            Check.illegalArgument("change of the next", () -> x.change(next, 6, 7));
            Check.same("the next has its own cost", x.measure(8, 9), count);
            Check.same("as it came", x.told(1 << count, 0), 8);
        }
    }

    private static void excludeOnAndOff() {
        MeasureChoice x = Check.equalHouse(2, 5, 5);
        Check.fails("off at first", x.exclude(0, 1, false));
        Check.fails("off still", x.exclude(0, 1, true));
        Check.fails("lawful(3) while on", x.lawful(3));
        Check.same("best(10) while on", x.best(10), 1);
        Check.holds("on", x.exclude(0, 1, true));
        Check.fails("on twice is on", x.lawful(3));
        Check.holds("on still", x.exclude(0, 1, false));
        Check.holds("off after one call", x.lawful(3));
        Check.same("best(10) when off", x.best(10), 3);
        Check.fails("off", x.exclude(0, 1, false));
        Check.fails("off twice is off", x.exclude(0, 1, false));
    }

    private static void excludeBothOrders() {
        MeasureChoice x = Check.equalHouse(12, 5, 5);
        int[][] pairs = {{0, 1}, {0, 11}, {11, 10}, {5, 6}, {6, 3}};
        for (int[] pair : pairs) {
            Check.fails("at first", x.exclude(pair[0], pair[1], true));
            Check.holds("the other way round", x.exclude(pair[1], pair[0], true));
            Check.holds("set off the other way round", x.exclude(pair[1], pair[0], false));
            Check.fails("off both ways", x.exclude(pair[0], pair[1], false));
            Check.holds("lawful of all", x.lawful(ALL));
        }
    }

    private static void excludeOne() {
        MeasureChoice x = Check.equalHouse(12, 5, 5);
        for (int m = 0; m < 12; m++) {
            int one = m;
            Check.illegalArgument("exclude(" + m + ", itself, on)", () -> x.exclude(one, one, true));
            Check.illegalArgument("exclude(" + m + ", itself, off)", () -> x.exclude(one, one, false));
            Check.holds("lawful(" + (1 << m) + ")", x.lawful(1 << m));
        }
    }

    private static void needOnAndOff() {
        MeasureChoice x = Check.equalHouse(2, 5, 5);
        Check.fails("off at first", x.needs(0, 1, false));
        Check.fails("off still", x.needs(0, 1, true));
        Check.fails("lawful(1) while on", x.lawful(1));
        Check.same("closure(0) while on", x.closure(0), 3);
        Check.same("best(5) while on", x.best(5), 2);
        Check.holds("on", x.needs(0, 1, true));
        Check.fails("on twice is on", x.lawful(1));
        Check.holds("on still", x.needs(0, 1, false));
        Check.holds("off after one call", x.lawful(1));
        Check.same("closure(0) when off", x.closure(0), 1);
        Check.same("best(5) when off", x.best(5), 1);
        Check.fails("off", x.needs(0, 1, false));
        Check.fails("off twice is off", x.needs(0, 1, false));
    }

    private static void needEachWay() {
        MeasureChoice x = Check.equalHouse(12, 5, 5);
        Check.fails("0 needs 11", x.needs(0, 11, true));
        Check.fails("11 needs 0, not yet", x.needs(11, 0, false));
        Check.holds("0 needs 11 still", x.needs(0, 11, true));
        Check.fails("11 needs 0 now", x.needs(11, 0, true));
        Check.holds("0 needs 11 no more", x.needs(0, 11, false));
        Check.holds("11 needs 0 still", x.needs(11, 0, true));
        Check.same("closure(11)", x.closure(11), 2049);
        Check.same("closure(0)", x.closure(0), 1);
    }

    private static void needOne() {
        MeasureChoice x = Check.equalHouse(12, 5, 5);
        for (int m = 0; m < 12; m++) {
            int one = m;
            Check.illegalArgument("needs(" + m + ", itself, on)", () -> x.needs(one, one, true));
            Check.illegalArgument("needs(" + m + ", itself, off)", () -> x.needs(one, one, false));
            Check.same("closure(" + m + ")", x.closure(m), 1 << m);
        }
    }

    private static void bonusAsItWas() {
        MeasureChoice x = Check.equalHouse(2, 5, 5);
        Check.same("0 at first", x.bonus(0, 1, 5000), 0);
        Check.same("it is set, not added", x.bonus(0, 1, 5000), 5000);
        Check.same("told(3, 1) with 5000", x.told(3, 1), 5010);
        Check.same("best(10) with 5000", x.best(10), 3);
        Check.same("from the most to the least", x.bonus(0, 1, -5000), 5000);
        Check.same("told(3, 1) with -5000", x.told(3, 1), -4990);
        Check.same("best(10) with -5000", x.best(10), 1);
        Check.same("from the least to none", x.bonus(0, 1, 0), -5000);
        Check.same("told(3, 1) with none", x.told(3, 1), 10);
        Check.same("best(10) with none", x.best(10), 3);
        Check.same("none", x.bonus(0, 1, -1), 0);
        Check.same("one below 0", x.bonus(0, 1, 1), -1);
    }

    /** A value of its own for each of the 66 pairs, read in the other order. */
    private static void bonusBothOrders() {
        MeasureChoice x = Check.equalHouse(12, 5, 0);
        for (int a = 0; a < 12; a++) {
            for (int b = 0; b < a; b++) {
                Check.same("at first", x.bonus(a, b, 100 * a + b), 0);
            }
        }
        for (int a = 0; a < 12; a++) {
            for (int b = 0; b < a; b++) {
                Check.same("gain of both", x.told(1 << a | 1 << b, 1), 100 * a + b);
                Check.same("the other way round", x.bonus(b, a, 0), 100 * a + b);
                Check.same("gain of both then", x.told(1 << a | 1 << b, 1), 0);
            }
        }
    }

    private static void bonusOfOne() {
        MeasureChoice x = Check.equalHouse(12, 5, 5);
        for (int m = 0; m < 12; m++) {
            int one = m;
            Check.illegalArgument("bonus(" + m + ", itself, 1)", () -> x.bonus(one, one, 1));
            Check.illegalArgument("bonus(" + m + ", itself, 0)", () -> x.bonus(one, one, 0));
            Check.same("gain of " + m, x.told(1 << m, 1), 5);
        }
        Check.same("gain of all", x.told(ALL, 1), 60);
    }
}
