/**
 * An object's whole state and a choice of its answers, as one text. The object is used up by it, as
 * some of its state is told only by calls that change it. A picture takes some 360 calls at most, and
 * an object is promised for 512.
 */
final class Picture {
    private static final int[] BUDGETS = {0, 3, 5, 8, 10, 15, 18, 27, 120000, Integer.MAX_VALUE};
    private static final int[] PLACES = {0, 1, 2, 3, 4, 5, 12};
    private static final int[] GAINS = {Integer.MIN_VALUE, 0, 1, 10, 25, 34, 450000};

    private final MeasureChoice x;
    private final StringBuilder text = new StringBuilder();
    private int count;

    private Picture(MeasureChoice x) {
        this.x = x;
    }

    static String of(MeasureChoice x) {
        Picture picture = new Picture(x);
        picture.measures();
        picture.sets();
        picture.plans();
        picture.pairs();
        picture.years();
        picture.nextMeasure();
        return picture.text.toString();
    }

    private void ask(String name, Check.Asked call) {
        text.append(name).append(' ').append(Check.answer(call)).append("; ");
    }

    private void measures() {
        while (count < 12 && Check.answer(() -> x.lawful(1 << count) ? 1 : 0) >= 0) {
            ask("cost", () -> x.told(1 << count, 0));
            ask("gain", () -> x.told(1 << count, 1));
            count++;
        }
        for (int m = 0; m < count; m++) {
            int measure = m;
            ask("closure", () -> x.closure(measure));
        }
        ask("all cost", () -> x.told((1 << count) - 1, 0));
        ask("all gain", () -> x.told((1 << count) - 1, 1));
        ask("all lawful", () -> x.lawful((1 << count) - 1) ? 1 : 0);
    }

    private void sets() {
        for (int budget : BUDGETS) {
            ask("best", () -> x.best(budget));
        }
        for (int gain : GAINS) {
            ask("budget", () -> x.budget(gain));
        }
        ask("worth", () -> x.worth(0, 1000000));
        ask("worth", () -> x.worth(5, 10));
        for (int k : PLACES) {
            ask("frontier", () -> x.frontier(k));
        }
    }

    private void plans() {
        for (int y = 1; y <= 4; y++) {
            int years = y;
            for (int i = 0; i < years; i++) {
                int k = i;
                ask("plan", () -> x.plan(years, k));
            }
            ask("planned", () -> x.planned(years));
        }
    }

    private void pairs() {
        for (int a = 0; a < count; a++) {
            for (int b = 0; b < count; b++) {
                if (a != b) {
                    pair(a, b);
                }
            }
        }
    }

    private void pair(int a, int b) {
        ask("needs", () -> x.needs(a, b, false) ? 1 : 0);
        if (a < b) {
            ask("exclude", () -> x.exclude(a, b, false) ? 1 : 0);
            ask("bonus", () -> x.bonus(a, b, 0));
        }
    }

    private void years() {
        for (int y = 0; y < 4; y++) {
            int year = y;
            ask("year", () -> x.year(year, 0));
        }
    }

    /** What was kept for a measure ahead of its coming would show now. */
    private void nextMeasure() {
        ask("next", () -> x.measure(1, 0));
        if (count < 12) {
            ask("next closure", () -> x.closure(count));
            ask("next lawful", () -> x.lawful((2 << count) - 1) ? 1 : 0);
            ask("next gain", () -> x.told((2 << count) - 1, 1));
        }
    }
}
