/** What the tests share: they print every answer that is not due, and end with exit code 1 if there was one. */
final class Check {
    interface Call {
        void run();
    }

    private static int wrong = 0;
    private static int made = 0;

    private Check() {
    }

    static void due(String call, long got, long want) {
        made++;
        if (got != want) {
            fail(call + " answered " + got + ", due is " + want);
        }
    }

    static void due(String call, boolean got, boolean want) {
        due(call, got ? 1 : 0, want ? 1 : 0);
    }

    static void refused(String call, Class<?> want, Call made) {
        String got = "nothing";
        try {
            made.run();
        } catch (RuntimeException e) {
            got = e.getClass().getName();
        }
        Check.made++;
        if (!got.equals(want.getName())) {
            fail(call + " throws " + got + ", due is " + want.getName());
        }
    }

    static void fail(String what) {
        wrong++;
        if (wrong <= 50) {
            System.out.println(what);
        }
    }

    static void end() {
        System.out.println(made + " answers looked at, " + wrong + " not as due");
        if (wrong != 0 || made == 0) {
            System.exit(1);
        }
    }

    /** The number of an order, its candidates from the first place on. */
    static int order(int... candidates) {
        int number = 0;
        for (int place = candidates.length - 1; place >= 0; place--) {
            number = number * 8 + candidates[place];
        }
        return number;
    }

    static int set(int... candidates) {
        int bits = 0;
        for (int candidate : candidates) {
            bits |= 1 << candidate;
        }
        return bits;
    }
}
