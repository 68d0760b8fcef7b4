/** What the tests share: they count wrong answers, print each, and end with exit code 1 if any. */
final class Check {
    /** A call that may throw. */
    interface Call {
        void run();
    }

    /** Answers that a call which throws gives in place of a number, outside of all real answers. */
    static final long ILLEGAL_ARGUMENT = Long.MIN_VALUE + 1;
    static final long ILLEGAL_STATE = Long.MIN_VALUE + 2;

    /** A call that answers a number. */
    interface Asked {
        long ask();
    }

    private static int wrong = 0;

    private Check() {
    }

    static void same(String call, long got, long due) {
        if (got != due) {
            wrong++;
            System.out.println(call + " answered " + got + ", due is " + due);
        }
    }

    static void holds(String call, boolean got) {
        same(call, got ? 1 : 0, 1);
    }

    static void fails(String call, boolean got) {
        same(call, got ? 1 : 0, 0);
    }

    static void illegalArgument(String call, Call made) {
        throwsExactly(call, IllegalArgumentException.class, made);
    }

    static void illegalState(String call, Call made) {
        throwsExactly(call, IllegalStateException.class, made);
    }

    /** The very class: what the machine throws may be a class below the one that is due. */
    private static void throwsExactly(String call, Class<?> due, Call made) {
        Class<?> thrown = null;
        try {
            made.run();
        } catch (RuntimeException e) {
            thrown = e.getClass();
        }
        if (thrown != due) {
            wrong++;
            System.out.println(call + " threw " + thrown + ", due is " + due);
        }
    }

    static long answer(Asked call) {
        try {
            return call.ask();
        } catch (IllegalArgumentException e) {
            return e.getClass() == IllegalArgumentException.class ? ILLEGAL_ARGUMENT : Long.MIN_VALUE;
        } catch (IllegalStateException e) {
            return e.getClass() == IllegalStateException.class ? ILLEGAL_STATE : Long.MIN_VALUE;
        }
    }

    static MeasureChoice house(int... costsAndGains) {
        MeasureChoice x = new MeasureChoice();
        for (int i = 0; i < costsAndGains.length; i += 2) {
            x.measure(costsAndGains[i], costsAndGains[i + 1]);
        }
        return x;
    }

    /** Twelve measures, with the highest cost, gain and bonus everywhere. */
    static MeasureChoice greatestHouse() {
        MeasureChoice x = new MeasureChoice();
        for (int m = 0; m < 12; m++) {
            x.measure(10000, 10000);
            for (int other = 0; other < m; other++) {
                x.bonus(m, other, 5000);
            }
        }
        return x;
    }

    static void end() {
        System.out.println(wrong == 0 ? "all answers are as due" : wrong + " answers are not as due");
        if (wrong != 0) {
            System.exit(1);
        }
    }
}
