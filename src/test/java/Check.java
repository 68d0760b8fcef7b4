/** What the tests share: they count wrong answers, print each, and end with exit code 1 if any. */
final class Check {
    /** A call that may throw. */
    interface Call {
        void run();
    }

    /** Answers that a call which throws gives in place of a number, outside of all real answers. */
    static final long ILLEGAL_ARGUMENT = Long.MIN_VALUE + 1;
    static final long ILLEGAL_STATE = Long.MIN_VALUE + 2;

    /** A call that answers a number. */
    interface Asked {
        long ask();
    }

    private static final long MOST_MILLISECONDS = 600000;

    private static int wrong = 0;
    private static String sentence = "";

    // A call that does not end would otherwise hold the whole run of tests up for ever.
    static {
        Thread guard = new Thread(Check::endLate);
        guard.setDaemon(true);
        guard.start();
    }

    private Check() {
    }

    private static void endLate() {
        try {
            Thread.sleep(MOST_MILLISECONDS);
        } catch (InterruptedException e) {
            return;
        }
        System.out.println(sentence + "a call does not end");
        Runtime.getRuntime().halt(1);
    }

    /** The test of one sentence of the document; what it throws is its own fault alone. */
    static void sentence(String words, Call test) {
        sentence = "'" + words + "': ";
        try {
            test.run();
        } catch (RuntimeException e) {
            tell("threw " + e);
        }
        sentence = "";
    }

    private static void tell(String fault) {
        wrong++;
        System.out.println(sentence + fault);
    }

    static void same(String call, long got, long due) {
        if (got != due) {
            tell(call + " answered " + got + ", due is " + due);
        }
    }

    static void same(String name, String got, String due) {
        if (!got.equals(due)) {
            tell(name + " is" + System.lineSeparator() + got + ", due is" + System.lineSeparator() + due);
        }
    }

    static void holds(String call, boolean got) {
        same(call, got ? 1 : 0, 1);
    }

    static void fails(String call, boolean got) {
        same(call, got ? 1 : 0, 0);
    }

    static void illegalArgument(String call, Call made) {
        throwsExactly(call, IllegalArgumentException.class, made);
    }

    static void illegalState(String call, Call made) {
        throwsExactly(call, IllegalStateException.class, made);
    }

    /** The very class: what the machine throws may be a class below the one that is due. */
    private static void throwsExactly(String call, Class<?> due, Call made) {
        Class<?> thrown = null;
        try {
            made.run();
        } catch (RuntimeException e) {
            thrown = e.getClass();
        }
        if (thrown != due) {
            tell(call + " threw " + thrown + ", due is " + due);
        }
    }

    static long answer(Asked call) {
        try {
            return call.ask();
        } catch (IllegalArgumentException e) {
            return e.getClass() == IllegalArgumentException.class ? ILLEGAL_ARGUMENT : Long.MIN_VALUE;
        } catch (IllegalStateException e) {
            return e.getClass() == IllegalStateException.class ? ILLEGAL_STATE : Long.MIN_VALUE;
        }
    }

    static MeasureChoice house(int... costsAndGains) {
        MeasureChoice x = new MeasureChoice();
        for (int i = 0; i < costsAndGains.length; i += 2) {
            x.measure(costsAndGains[i], costsAndGains[i + 1]);
        }
        return x;
    }

    static MeasureChoice equalHouse(int measures, int cost, int gain) {
        MeasureChoice x = new MeasureChoice();
        for (int m = 0; m < measures; m++) {
            x.measure(cost, gain);
        }
        return x;
    }

    /** Twelve measures, with the highest cost, gain and bonus everywhere. */
    static MeasureChoice greatestHouse() {
        MeasureChoice x = new MeasureChoice();
        for (int m = 0; m < 12; m++) {
            x.measure(10000, 10000);
            for (int other = 0; other < m; other++) {
                x.bonus(m, other, 5000);
            }
        }
        return x;
    }

    static void budgets(MeasureChoice x, int... budgets) {
        for (int year = 0; year < budgets.length; year++) {
            x.year(year, budgets[year]);
        }
    }

    /** The sets of the best plan over as many years as there are sets, and what it gains. */
    static void plan(String name, MeasureChoice x, int gain, int... sets) {
        int years = sets.length;
        for (int k = 0; k < years; k++) {
            same(name + ": plan(" + years + ", " + k + ")", x.plan(years, k), sets[k]);
        }
        same(name + ": planned(" + years + ")", x.planned(years), gain);
    }

    /** The whole frontier, and that there is no more of it. */
    static void frontier(String name, MeasureChoice x, int... sets) {
        for (int k = 0; k < sets.length; k++) {
            same(name + ": frontier(" + k + ")", x.frontier(k), sets[k]);
        }
        same(name + ": frontier(" + sets.length + ")", x.frontier(sets.length), MeasureChoice.NONE);
    }

    static void end() {
        System.out.println(wrong == 0 ? "all answers are as due" : wrong + " answers are not as due");
        if (wrong != 0) {
            System.exit(1);
        }
    }
}
