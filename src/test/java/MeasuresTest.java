/** Promises 1 to 6: a new object, measure, change, exclude, needs, bonus. */
public final class MeasuresTest {
    private static final int LEAST = Integer.MIN_VALUE;
    private static final int MOST = Integer.MAX_VALUE;

    public static void main(String[] args) {
        newObject();
        measure();
        measureBeyondTwelve();
        change();
        exclude();
        needs();
        bonus();
        callsThatThrowChangeNothing();
        objectsAreApart();
        Check.end();
    }

    private static MeasureChoice three() {
        MeasureChoice x = new MeasureChoice();
        x.measure(10, 20);
        x.measure(5, 10);
        x.measure(3, 4);
        return x;
    }

    private static void newObject() {
        MeasureChoice x = new MeasureChoice();
        Check.same("NONE", MeasureChoice.NONE, -1);
        Check.holds("new: lawful(0)", x.lawful(0));
        Check.illegalArgument("new: lawful(1)", () -> x.lawful(1));
        Check.same("new: told(0, 0)", x.told(0, 0), 0);
        Check.same("new: told(0, 1)", x.told(0, 1), 0);
        Check.illegalArgument("new: told(1, 0)", () -> x.told(1, 0));
        Check.illegalArgument("new: closure(0)", () -> x.closure(0));
        Check.illegalArgument("new: change(0, 1, 1)", () -> x.change(0, 1, 1));
        Check.illegalArgument("new: exclude(0, 1)", () -> x.exclude(0, 1, true));
        Check.illegalArgument("new: needs(0, 1)", () -> x.needs(0, 1, true));
        Check.illegalArgument("new: bonus(0, 1, 1)", () -> x.bonus(0, 1, 1));
        Check.same("new: best(MAX)", x.best(MOST), 0);
        Check.same("new: budget(0)", x.budget(0), 0);
        Check.same("new: budget(1)", x.budget(1), MeasureChoice.NONE);
        Check.same("new: worth(0, 1000000)", x.worth(0, 1000000), 0);
        Check.same("new: frontier(0)", x.frontier(0), 0);
        Check.same("new: frontier(1)", x.frontier(1), MeasureChoice.NONE);
        Check.same("new: plan(4, 3)", x.plan(4, 3), 0);
        Check.same("new: planned(1)", x.planned(1), 0);
        Check.same("new: measure(1, 0)", x.measure(1, 0), 0);
    }

    private static void measure() {
        MeasureChoice x = new MeasureChoice();
        Check.illegalArgument("measure(0, 1)", () -> x.measure(0, 1));
        Check.illegalArgument("measure(-1, 1)", () -> x.measure(-1, 1));
        Check.illegalArgument("measure(10001, 1)", () -> x.measure(10001, 1));
        Check.illegalArgument("measure(1, -1)", () -> x.measure(1, -1));
        Check.illegalArgument("measure(1, 10001)", () -> x.measure(1, 10001));
        Check.illegalArgument("measure(MIN, 1)", () -> x.measure(LEAST, 1));
        Check.illegalArgument("measure(MAX, 1)", () -> x.measure(MOST, 1));
        Check.illegalArgument("measure(1, MIN)", () -> x.measure(1, LEAST));
        Check.illegalArgument("measure(1, MAX)", () -> x.measure(1, MOST));
        Check.same("measure(1, 0) is the first", x.measure(1, 0), 0);
        Check.same("measure(10000, 10000)", x.measure(10000, 10000), 1);
        Check.same("measure(1, 10000)", x.measure(1, 10000), 2);
        Check.same("cost of 0", x.told(1, 0), 1);
        Check.same("gain of 0", x.told(1, 1), 0);
        Check.same("cost of 1", x.told(2, 0), 10000);
        Check.same("gain of 1", x.told(2, 1), 10000);
    }

    private static void measureBeyondTwelve() {
        MeasureChoice x = new MeasureChoice();
        for (int m = 0; m < 12; m++) {
            Check.same("measure " + m, x.measure(m + 1, m), m);
        }
        Check.illegalState("a thirteenth measure", () -> x.measure(1, 1));
        Check.illegalArgument("a thirteenth of cost 0", () -> x.measure(0, 1));
        Check.illegalArgument("a thirteenth of gain 10001", () -> x.measure(1, 10001));
        Check.illegalState("a thirteenth measure again", () -> x.measure(10000, 10000));
        Check.same("cost of the twelve", x.told(4095, 0), 78);
        Check.same("gain of the twelve", x.told(4095, 1), 66);
        Check.illegalArgument("no bit 12", () -> x.lawful(4096));
    }

    private static void change() {
        MeasureChoice x = three();
        Check.same("best(9) before", x.best(9), 6);
        x.change(0, 9, 21);
        Check.same("cost after change", x.told(1, 0), 9);
        Check.same("gain after change", x.told(1, 1), 21);
        Check.same("others are as they were", x.told(6, 0), 8);
        Check.same("best(9) after", x.best(9), 1);
        x.change(2, 1, 0);
        Check.same("cost 1", x.told(4, 0), 1);
        Check.same("gain 0", x.told(4, 1), 0);
        x.change(2, 10000, 10000);
        Check.same("cost 10000", x.told(4, 0), 10000);
        Check.same("gain 10000", x.told(4, 1), 10000);
        Check.illegalArgument("change(-1, ..)", () -> x.change(-1, 1, 1));
        Check.illegalArgument("change(3, ..)", () -> x.change(3, 1, 1));
        Check.illegalArgument("change(MAX, ..)", () -> x.change(MOST, 1, 1));
        Check.illegalArgument("change(MIN, ..)", () -> x.change(LEAST, 1, 1));
        Check.illegalArgument("change(0, 0, 1)", () -> x.change(0, 0, 1));
        Check.illegalArgument("change(0, 10001, 1)", () -> x.change(0, 10001, 1));
        Check.illegalArgument("change(0, 1, -1)", () -> x.change(0, 1, -1));
        Check.illegalArgument("change(0, 1, 10001)", () -> x.change(0, 1, 10001));
        x.bonus(0, 1, 7);
        x.needs(1, 0, true);
        x.exclude(0, 2, true);
        x.change(0, 2, 3);
        Check.same("change keeps the bonus", x.told(3, 1), 20);
        Check.same("change keeps what is needed", x.closure(1), 3);
        Check.fails("change keeps what is excluded", x.lawful(5));
    }

    private static void exclude() {
        MeasureChoice x = three();
        Check.same("best(100) before", x.best(100), 7);
        Check.fails("exclude(0, 1) first", x.exclude(0, 1, true));
        Check.same("best(100) after", x.best(100), 5);
        Check.holds("exclude(0, 1) again", x.exclude(0, 1, true));
        Check.holds("exclude(1, 0) is the same", x.exclude(1, 0, true));
        Check.fails("lawful(3)", x.lawful(3));
        Check.fails("lawful(7)", x.lawful(7));
        Check.holds("lawful(5)", x.lawful(5));
        Check.fails("exclude(1, 2, false) did not", x.exclude(1, 2, false));
        Check.holds("exclude(1, 0, false) did", x.exclude(1, 0, false));
        Check.fails("exclude(0, 1, false) no more", x.exclude(0, 1, false));
        Check.holds("lawful(3) again", x.lawful(3));
        Check.same("best(100) again", x.best(100), 7);
        for (boolean on : new boolean[] {true, false}) {
            Check.illegalArgument("exclude(1, 1)", () -> x.exclude(1, 1, on));
            Check.illegalArgument("exclude(-1, 1)", () -> x.exclude(-1, 1, on));
            Check.illegalArgument("exclude(1, -1)", () -> x.exclude(1, -1, on));
            Check.illegalArgument("exclude(3, 1)", () -> x.exclude(3, 1, on));
            Check.illegalArgument("exclude(1, 3)", () -> x.exclude(1, 3, on));
            Check.illegalArgument("exclude(MAX, MIN)", () -> x.exclude(MOST, LEAST, on));
        }
    }

    private static void needs() {
        MeasureChoice x = three();
        Check.same("best(10) before", x.best(10), 1);
        Check.fails("needs(0, 2) first", x.needs(0, 2, true));
        Check.same("best(10) after", x.best(10), 6);
        Check.holds("needs(0, 2) again", x.needs(0, 2, true));
        Check.fails("needs(2, 0) is another", x.needs(2, 0, false));
        Check.fails("lawful(1)", x.lawful(1));
        Check.holds("lawful(4)", x.lawful(4));
        Check.holds("lawful(5)", x.lawful(5));
        Check.fails("needs(2, 0), a ring", x.needs(2, 0, true));
        Check.fails("lawful(4) in a ring", x.lawful(4));
        Check.holds("lawful(5) in a ring", x.lawful(5));
        Check.holds("needs(0, 2, false) did", x.needs(0, 2, false));
        Check.fails("needs(0, 2, false) no more", x.needs(0, 2, false));
        Check.holds("needs(2, 0) is still there", x.needs(2, 0, true));
        Check.same("best(10) again", x.best(10), 1);
        for (boolean on : new boolean[] {true, false}) {
            Check.illegalArgument("needs(2, 2)", () -> x.needs(2, 2, on));
            Check.illegalArgument("needs(-1, 1)", () -> x.needs(-1, 1, on));
            Check.illegalArgument("needs(1, -1)", () -> x.needs(1, -1, on));
            Check.illegalArgument("needs(3, 1)", () -> x.needs(3, 1, on));
            Check.illegalArgument("needs(1, 3)", () -> x.needs(1, 3, on));
            Check.illegalArgument("needs(MIN, MAX)", () -> x.needs(LEAST, MOST, on));
        }
    }

    private static void bonus() {
        MeasureChoice x = three();
        Check.same("best(100) before", x.best(100), 7);
        Check.same("bonus(0, 1, -11) first", x.bonus(0, 1, -11), 0);
        Check.same("best(100) after", x.best(100), 5);
        Check.same("bonus(1, 0, 5000)", x.bonus(1, 0, 5000), -11);
        Check.same("gain with a bonus", x.told(3, 1), 5030);
        Check.same("gain of one of the pair", x.told(5, 1), 24);
        Check.same("bonus(0, 1, -5000)", x.bonus(0, 1, -5000), 5000);
        Check.same("gain below 0", x.told(3, 1), -4970);
        Check.same("bonus(0, 2, 3)", x.bonus(0, 2, 3), 0);
        Check.same("bonus(2, 1, 4)", x.bonus(2, 1, 4), 0);
        Check.same("all pairs count", x.told(7, 1), -4959);
        Check.same("bonus(1, 0, 0)", x.bonus(1, 0, 0), -5000);
        Check.same("best(100) again", x.best(100), 7);
        Check.illegalArgument("bonus(0, 1, 5001)", () -> x.bonus(0, 1, 5001));
        Check.illegalArgument("bonus(0, 1, -5001)", () -> x.bonus(0, 1, -5001));
        Check.illegalArgument("bonus(0, 1, MAX)", () -> x.bonus(0, 1, MOST));
        Check.illegalArgument("bonus(0, 1, MIN)", () -> x.bonus(0, 1, LEAST));
        Check.illegalArgument("bonus(0, 0, 1)", () -> x.bonus(0, 0, 1));
        Check.illegalArgument("bonus(-1, 1, 1)", () -> x.bonus(-1, 1, 1));
        Check.illegalArgument("bonus(1, -1, 1)", () -> x.bonus(1, -1, 1));
        Check.illegalArgument("bonus(3, 1, 1)", () -> x.bonus(3, 1, 1));
        Check.illegalArgument("bonus(1, 3, 1)", () -> x.bonus(1, 3, 1));
        Check.same("bonus(0, 1) as it was", x.bonus(0, 1, 0), 0);
    }

    private static void callsThatThrowChangeNothing() {
        MeasureChoice x = three();
        Check.illegalArgument("measure(1, -1)", () -> x.measure(1, -1));
        Check.illegalArgument("measure(0, 1)", () -> x.measure(0, 1));
        Check.illegalArgument("lawful(8)", () -> x.lawful(8));
        Check.illegalArgument("change(0, 1, 10001)", () -> x.change(0, 1, 10001));
        Check.illegalArgument("change(0, 0, 1)", () -> x.change(0, 0, 1));
        Check.same("cost is as it was", x.told(1, 0), 10);
        Check.same("gain is as it was", x.told(1, 1), 20);
        Check.illegalArgument("exclude(0, 3)", () -> x.exclude(0, 3, true));
        Check.illegalArgument("exclude(0, 0)", () -> x.exclude(0, 0, true));
        Check.illegalArgument("needs(0, 3)", () -> x.needs(0, 3, true));
        Check.illegalArgument("needs(0, 0)", () -> x.needs(0, 0, true));
        Check.illegalArgument("bonus(0, 0, 5)", () -> x.bonus(0, 0, 5));
        Check.illegalArgument("bonus(0, 1, 9999)", () -> x.bonus(0, 1, 9999));
        Check.same("the next one", x.measure(1, 1), 3);
        Check.holds("lawful(1)", x.lawful(1));
        Check.holds("lawful(9)", x.lawful(9));
        Check.same("closure(0)", x.closure(0), 1);
        Check.same("gain of all", x.told(15, 1), 35);
    }

    private static void objectsAreApart() {
        MeasureChoice x = three();
        MeasureChoice y = new MeasureChoice();
        Check.same("best of x", x.best(100), 7);
        Check.same("best of y", y.best(100), 0);
        Check.same("y's first measure", y.measure(1, 1), 0);
        Check.same("best of y then", y.best(100), 1);
        Check.same("best of x then", x.best(100), 7);
        x.year(0, 50);
        Check.same("y's year is its own", y.year(0, 1), 0);
    }
}
