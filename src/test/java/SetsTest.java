/** Promises 7 to 13: lawful, told, closure, best, budget, worth, frontier. */
public final class SetsTest {
    private static final int NONE = MeasureChoice.NONE;
    private static final int LEAST = Integer.MIN_VALUE;
    private static final int MOST = Integer.MAX_VALUE;

    public static void main(String[] args) {
        lawful();
        told();
        toldAtTheEdges();
        closure();
        closureOfTwelve();
        best();
        bestOfEqualSets();
        budget();
        worth();
        frontier();
        frontierOfEqualSets();
        frontierOfAllSets();
        gainsBelowZero();
        Check.end();
    }

    private static void lawful() {
        MeasureChoice x = Check.house(1, 1, 1, 1, 1, 1, 1, 1);
        Check.holds("lawful(0)", x.lawful(0));
        Check.holds("lawful(15)", x.lawful(15));
        x.exclude(0, 3, true);
        x.needs(1, 2, true);
        x.needs(2, 3, true);
        Check.holds("lawful(0) always", x.lawful(0));
        Check.holds("lawful(1)", x.lawful(1));
        Check.fails("lawful(2): 2 is not there", x.lawful(2));
        Check.fails("lawful(6): 3 is not there", x.lawful(6));
        Check.fails("lawful(10): 2 is not there", x.lawful(10));
        Check.holds("lawful(14)", x.lawful(14));
        Check.fails("lawful(9): excluded", x.lawful(9));
        Check.fails("lawful(15): excluded", x.lawful(15));
        x.exclude(1, 2, true);
        Check.fails("lawful(14): needed and excluded", x.lawful(14));
        Check.holds("lawful(12)", x.lawful(12));
        Check.illegalArgument("lawful(16)", () -> x.lawful(16));
        Check.illegalArgument("lawful(17)", () -> x.lawful(17));
        Check.illegalArgument("lawful(-1)", () -> x.lawful(-1));
        Check.illegalArgument("lawful(MIN)", () -> x.lawful(LEAST));
        Check.illegalArgument("lawful(MAX)", () -> x.lawful(MOST));
        x.measure(1, 1);
        Check.holds("lawful(16) with a fifth", x.lawful(16));
        Check.illegalArgument("lawful(32)", () -> x.lawful(32));
    }

    private static void told() {
        MeasureChoice x = Check.house(10, 20, 5, 10, 3, 4);
        x.bonus(0, 2, 6);
        Check.same("told(0, 0)", x.told(0, 0), 0);
        Check.same("told(0, 1)", x.told(0, 1), 0);
        Check.same("told(7, 0)", x.told(7, 0), 18);
        Check.same("told(7, 1)", x.told(7, 1), 40);
        Check.same("told(5, 1)", x.told(5, 1), 30);
        Check.same("told(3, 1)", x.told(3, 1), 30);
        x.exclude(0, 2, true);
        x.needs(0, 1, true);
        Check.same("an unlawful set's cost", x.told(5, 0), 13);
        Check.same("an unlawful set's gain", x.told(5, 1), 30);
        Check.illegalArgument("told(0, 2)", () -> x.told(0, 2));
        Check.illegalArgument("told(0, -1)", () -> x.told(0, -1));
        Check.illegalArgument("told(0, MAX)", () -> x.told(0, MOST));
        Check.illegalArgument("told(0, MIN)", () -> x.told(0, LEAST));
        Check.illegalArgument("told(8, 0)", () -> x.told(8, 0));
        Check.illegalArgument("told(-1, 1)", () -> x.told(-1, 1));
        Check.illegalArgument("told(MIN, 0)", () -> x.told(LEAST, 0));
        Check.illegalArgument("told(MAX, 0)", () -> x.told(MOST, 0));
    }

    private static void toldAtTheEdges() {
        MeasureChoice x = Check.greatestHouse();
        Check.same("the dearest set", x.told(4095, 0), 120000);
        Check.same("the most gain", x.told(4095, 1), 450000);
        Check.same("best(119999) leaves the last", x.best(119999), 2047);
        Check.same("best(120000)", x.best(120000), 4095);
        Check.same("budget(450000)", x.budget(450000), 120000);
        Check.same("budget(450001)", x.budget(450001), NONE);
        Check.same("worth(119999, 1)", x.worth(119999, 1), 65000);
        Check.same("frontier(12)", x.frontier(12), 4095);
        Check.same("frontier(13)", x.frontier(13), NONE);
    }

    private static void closure() {
        MeasureChoice x = Check.house(1, 1, 1, 1, 1, 1, 1, 1, 1, 1);
        Check.same("closure(0) alone", x.closure(0), 1);
        x.needs(0, 1, true);
        x.needs(1, 2, true);
        x.needs(3, 2, true);
        Check.same("closure(0)", x.closure(0), 7);
        Check.same("closure(1)", x.closure(1), 6);
        Check.same("closure(2)", x.closure(2), 4);
        Check.same("closure(3)", x.closure(3), 12);
        Check.same("closure(4)", x.closure(4), 16);
        x.needs(2, 0, true);
        Check.same("closure(0) in a ring", x.closure(0), 7);
        Check.same("closure(2) in a ring", x.closure(2), 7);
        Check.same("closure(3) into a ring", x.closure(3), 15);
        x.exclude(0, 1, true);
        Check.same("closure(0), unlawful", x.closure(0), 7);
        Check.illegalArgument("closure(5)", () -> x.closure(5));
        Check.illegalArgument("closure(-1)", () -> x.closure(-1));
        Check.illegalArgument("closure(MAX)", () -> x.closure(MOST));
        Check.illegalArgument("closure(MIN)", () -> x.closure(LEAST));
    }

    private static void closureOfTwelve() {
        MeasureChoice x = new MeasureChoice();
        for (int m = 0; m < 12; m++) {
            x.measure(1, 1);
        }
        for (int m = 11; m > 0; m--) {
            x.needs(m, m - 1, true);
        }
        Check.same("closure(11) down a chain", x.closure(11), 4095);
        Check.same("closure(5) down a chain", x.closure(5), 63);
        Check.same("closure(0) at its end", x.closure(0), 1);
    }

    private static void best() {
        MeasureChoice x = Check.house(10, 20, 5, 10, 3, 0, 7, 7);
        Check.same("best(0)", x.best(0), 0);
        Check.same("best(4)", x.best(4), 0);
        Check.same("best(5)", x.best(5), 2);
        Check.same("best(9)", x.best(9), 2);
        Check.same("best(10)", x.best(10), 1);
        Check.same("best(15)", x.best(15), 3);
        Check.same("best(22) leaves what gains nothing", x.best(22), 11);
        Check.same("best(MAX)", x.best(MOST), 11);
        Check.illegalArgument("best(-1)", () -> x.best(-1));
        Check.illegalArgument("best(MIN)", () -> x.best(LEAST));
        x.exclude(0, 1, true);
        Check.same("best(22) of what may stand together", x.best(22), 9);
        x.needs(0, 2, true);
        Check.same("best(12) of what needs no more", x.best(12), 10);
        Check.same("best(13) with what is needed", x.best(13), 5);
        x.bonus(1, 3, 4);
        Check.same("best(13) with a bonus", x.best(13), 10);
    }

    private static void bestOfEqualSets() {
        MeasureChoice x = Check.house(6, 10, 5, 10, 5, 10);
        Check.same("of equal gain the cheapest", x.best(6), 2);
        Check.same("of equal cost the least number", x.best(10), 6);
        x.change(0, 5, 10);
        Check.same("of three equal ones the first", x.best(5), 1);
        Check.same("of three equal pairs the first", x.best(14), 3);
    }

    private static void budget() {
        MeasureChoice x = Check.house(10, 20, 5, 10, 3, 0, 7, 7);
        Check.same("budget(0)", x.budget(0), 0);
        Check.same("budget(-1)", x.budget(-1), 0);
        Check.same("budget(MIN)", x.budget(LEAST), 0);
        Check.same("budget(1)", x.budget(1), 5);
        Check.same("budget(10)", x.budget(10), 5);
        Check.same("budget(11)", x.budget(11), 10);
        Check.same("budget(37)", x.budget(37), 22);
        Check.same("budget(38)", x.budget(38), NONE);
        Check.same("budget(MAX)", x.budget(MOST), NONE);
        x.needs(1, 2, true);
        Check.same("budget(10) with what is needed", x.budget(10), 8);
        x.exclude(1, 2, true);
        Check.same("budget(10) without the pair", x.budget(10), 10);
        Check.same("budget(30) without the pair", x.budget(30), NONE);
    }

    private static void worth() {
        MeasureChoice x = Check.house(10, 20, 5, 10, 3, 0, 7, 7);
        Check.same("worth(0, 0)", x.worth(0, 0), 0);
        Check.same("worth(0, 4)", x.worth(0, 4), 0);
        Check.same("worth(0, 5)", x.worth(0, 5), 10);
        Check.same("worth(5, 5)", x.worth(5, 5), 10);
        Check.same("worth(9, 13)", x.worth(9, 13), 27);
        Check.same("worth(0, 1000000)", x.worth(0, 1000000), 37);
        Check.same("worth(1000000, 0)", x.worth(1000000, 0), 0);
        Check.same("worth(999999, 1)", x.worth(999999, 1), 0);
        Check.illegalArgument("worth(1000000, 1)", () -> x.worth(1000000, 1));
        Check.illegalArgument("worth(1, 1000000)", () -> x.worth(1, 1000000));
        Check.illegalArgument("worth(0, 1000001)", () -> x.worth(0, 1000001));
        Check.illegalArgument("worth(1000001, 0)", () -> x.worth(1000001, 0));
        Check.illegalArgument("worth(-1, 5)", () -> x.worth(-1, 5));
        Check.illegalArgument("worth(5, -1)", () -> x.worth(5, -1));
        Check.illegalArgument("worth(MAX, MAX)", () -> x.worth(MOST, MOST));
        Check.illegalArgument("worth(MAX, 1)", () -> x.worth(MOST, 1));
        Check.illegalArgument("worth(1, MAX)", () -> x.worth(1, MOST));
        Check.illegalArgument("worth(MIN, MIN)", () -> x.worth(LEAST, LEAST));
        Check.illegalArgument("worth(MAX, MIN)", () -> x.worth(MOST, LEAST));
        Check.illegalArgument("worth(1000001, -1)", () -> x.worth(1000001, -1));
    }

    private static void frontier() {
        MeasureChoice x = Check.house(10, 20, 5, 10, 3, 0, 7, 7);
        int[] due = {0, 2, 1, 3, 11, NONE, NONE};
        for (int k = 0; k < due.length; k++) {
            Check.same("frontier(" + k + ")", x.frontier(k), due[k]);
        }
        Check.same("frontier(4096)", x.frontier(4096), NONE);
        Check.same("frontier(MAX)", x.frontier(MOST), NONE);
        Check.illegalArgument("frontier(-1)", () -> x.frontier(-1));
        Check.illegalArgument("frontier(MIN)", () -> x.frontier(LEAST));
        x.exclude(0, 1, true);
        x.needs(1, 2, true);
        int[] then = {0, 8, 6, 1, 9, NONE};
        for (int k = 0; k < then.length; k++) {
            Check.same("frontier(" + k + ") then", x.frontier(k), then[k]);
        }
    }

    private static void frontierOfEqualSets() {
        MeasureChoice x = Check.house(5, 9, 5, 10, 5, 10, 6, 10);
        Check.same("of equal cost the one that gains more, of these the least", x.frontier(1), 2);
        Check.same("of equal pairs the least", x.frontier(2), 6);
        Check.same("of equal triples the one that gains most", x.frontier(3), 7);
        Check.same("a dearer one that gains more", x.frontier(4), 14);
        Check.same("all four", x.frontier(5), 15);
        Check.same("no more", x.frontier(6), NONE);
    }

    private static MeasureChoice powersOfTwo() {
        MeasureChoice x = new MeasureChoice();
        for (int m = 0; m < 12; m++) {
            x.measure(1 << m, 1 << m);
        }
        return x;
    }

    /** An object is promised for 512 calls alone, so the frontier is read off several ones. */
    private static void frontierOfAllSets() {
        MeasureChoice x = powersOfTwo();
        for (int k = 0; k < 4096; k++) {
            x = k % 400 == 0 ? powersOfTwo() : x;
            Check.same("frontier(" + k + ") of all", x.frontier(k), k);
        }
        x = powersOfTwo();
        Check.same("frontier(4096) of all", x.frontier(4096), NONE);
        Check.same("best(2500) of all", x.best(2500), 2500);
        Check.same("budget(2500) of all", x.budget(2500), 2500);
        Check.same("worth(1000, 1500) of all", x.worth(1000, 1500), 1500);
    }

    private static void gainsBelowZero() {
        MeasureChoice x = Check.house(5, 10, 5, 10);
        x.bonus(0, 1, -5000);
        x.needs(0, 1, true);
        x.needs(1, 0, true);
        Check.same("told(3, 1) below 0", x.told(3, 1), -4980);
        Check.same("best(100): nothing at all", x.best(100), 0);
        Check.same("budget(0): nothing at all", x.budget(0), 0);
        Check.same("budget(-4980)", x.budget(-4980), 0);
        Check.same("budget(1)", x.budget(1), NONE);
        Check.same("worth(0, 100)", x.worth(0, 100), 0);
        Check.same("frontier(1)", x.frontier(1), NONE);
    }
}
