/** What the tests have in common: they count the answers that are not due, and end with exit code 1 if there was one. */
final class Checks {
    interface Call {
        long run();
    }

    /** A call that answers nothing, or whose answer does not matter. */
    interface Deed {
        void run();
    }

    static final int INDEX = 1, ARGUMENT = 2, STATE = 3;

    private static int held = 0;
    private static int wrong = 0;

    private Checks() {
    }

    /** A vehicle at the place 0 with such seats and ties, and riders 0 WALKS, 1 WALKER, 2 CHAIR. */
    static DoorstepRides town(int seats, int ties) {
        DoorstepRides x = new DoorstepRides();
        x.vehicle(0, seats, ties, 400);
        for (int kind = 0; kind <= 2; kind++) {
            x.rider(kind, 70, 5, false);
        }
        return x;
    }

    static void due(String what, long got, long want) {
        if (got == want) {
            held++;
        } else {
            wrong++;
            System.out.println(what + " answered " + got + ", due is " + want);
        }
    }

    static void due(String what, boolean got, boolean want) {
        due(what, got ? 1 : 0, want ? 1 : 0);
    }

    static void refused(String what, int want, Deed deed) {
        due(what + " throws (1 IndexOutOfBounds, 2 IllegalArgument, 3 IllegalState)", thrownBy(deed), want);
    }

    static int thrownBy(Deed deed) {
        try {
            deed.run();
            return 0;
        } catch (RuntimeException e) {
            return kindOf(e);
        }
    }

    /** An answer or what was thrown, as one number that no answer has. */
    static long outcome(Call call) {
        try {
            return call.run();
        } catch (RuntimeException e) {
            return Long.MIN_VALUE + kindOf(e);
        }
    }

    private static int kindOf(RuntimeException e) {
        StackTraceElement[] trace = e.getStackTrace();
        boolean isOwn = trace.length == 0 || isWritten(trace[0].getClassName());
        if (!isOwn) {
            throw new AssertionError("not thrown by the program's own throw", e);
        }
        Class<?> kind = e.getClass();
        if (kind == IndexOutOfBoundsException.class) {
            return INDEX;
        }
        if (kind == IllegalArgumentException.class) {
            return ARGUMENT;
        }
        if (kind == IllegalStateException.class) {
            return STATE;
        }
        throw new AssertionError("thrown by the machine or for no reason", e);
    }

    private static boolean isWritten(String thrower) {
        return thrower.startsWith("DoorstepRides") || thrower.startsWith("PlainModel");
    }

    static void close(String test) {
        System.out.println(test + ": " + held + " answers as due, " + wrong + " not");
        if (wrong != 0) {
            System.exit(1);
        }
    }
}
