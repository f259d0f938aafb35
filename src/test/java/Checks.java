import java.lang.reflect.InvocationTargetException;
import java.lang.reflect.Method;
import java.lang.reflect.Modifier;
import java.util.ArrayList;
import java.util.Comparator;
import java.util.List;

/** What the tests have in common: they count the answers that are not due, and end with exit code 1 if there are. */
final class Checks {
    interface Call {
        long run();
    }

    /** A call that answers nothing, or whose answer does not matter. */
    interface Deed {
        void run();
    }

    static final int INDEX = 1, ARGUMENT = 2, STATE = 3;

    private static int held = 0;
    private static int wrong = 0;
    private static String running = "";

    private Checks() {
    }

    /** A vehicle at the place 0 with such seats and ties, and riders 0 WALKS, 1 WALKER, 2 CHAIR. */
    static DoorstepRides town(int seats, int ties) {
        DoorstepRides x = new DoorstepRides();
        x.vehicle(0, seats, ties, 400);
        for (int kind = 0; kind <= 2; kind++) {
            x.rider(kind, 70, 5, false);
        }
        return x;
    }

    // ---- running tests

    /** The tests of a class are its methods that take and answer nothing; none can be forgotten in a list. */
    static List<Method> testsOf(Class<?> tests) {
        List<Method> all = new ArrayList<>();
        for (Method method : tests.getDeclaredMethods()) {
            boolean isPlain = method.getParameterCount() == 0 && method.getReturnType() == void.class;
            if (isPlain && Modifier.isStatic(method.getModifiers()) && !method.isSynthetic()) {
                all.add(method);
            }
        }
        all.sort(Comparator.comparing(Method::getName));
        return all;
    }

    static void runAll(Class<?> tests) {
        for (Method test : testsOf(tests)) {
            running = test.getName() + ": ";
            int before = held + wrong;
            try {
                test.setAccessible(true);
                test.invoke(null);
            } catch (InvocationTargetException e) {
                wrong++;
                System.out.println(running + "broken off by " + e.getCause());
            } catch (IllegalAccessException e) {
                throw new AssertionError(e);
            }
            due("looks at some answer", held + wrong > before, true);
        }
        running = "";
        close(tests.getSimpleName());
    }

    static void close(String test) {
        System.out.println(test + ": " + held + " answers as due, " + wrong + " not");
        if (wrong != 0) {
            System.exit(1);
        }
    }

    // ---- answers

    static void due(String what, long got, long want) {
        if (got == want) {
            held++;
        } else {
            wrong++;
            System.out.println(running + what + " answered " + got + ", due is " + want);
        }
    }

    static void due(String what, boolean got, boolean want) {
        due(what, got ? 1 : 0, want ? 1 : 0);
    }

    static void due(String what, List<?> got, List<?> want) {
        if (got.equals(want)) {
            held++;
        } else {
            wrong++;
            System.out.println(running + what + " answered " + got + ", due is " + want);
        }
    }

    /** The requests of a route's stops, one behind the other: the first of the two stops of a request is its pick. */
    static void dueRoute(DoorstepRides x, int vehicle, int... requests) {
        due("stops", x.vehicleOf(vehicle, 2), requests.length);
        for (int i = 0; i < requests.length && i < x.vehicleOf(vehicle, 2); i++) {
            due("request of the stop " + i, x.stopOf(vehicle, i, 0), requests[i]);
        }
    }

    // ---- exceptions

    static void refused(String what, int want, Deed deed) {
        due(what + " throws (1 IndexOutOfBounds, 2 IllegalArgument, 3 IllegalState)", thrownBy(deed), want);
    }

    static int thrownBy(Deed deed) {
        try {
            deed.run();
            return 0;
        } catch (RuntimeException e) {
            return kindOf(e);
        }
    }

    /** An answer or what was thrown, as one number that no answer has. */
    static long outcome(Call call) {
        try {
            return call.run();
        } catch (RuntimeException e) {
            return Long.MIN_VALUE + kindOf(e);
        }
    }

    private static int kindOf(RuntimeException e) {
        StackTraceElement[] trace = e.getStackTrace();
        boolean isOwn = trace.length == 0 || isWritten(trace[0].getClassName());
        if (!isOwn) {
            throw new AssertionError("not thrown by the program's own throw", e);
        }
        Class<?> kind = e.getClass();
        if (kind == IndexOutOfBoundsException.class) {
            return INDEX;
        }
        if (kind == IllegalArgumentException.class) {
            return ARGUMENT;
        }
        if (kind == IllegalStateException.class) {
            return STATE;
        }
        throw new AssertionError("thrown by the machine or for no reason", e);
    }

    private static boolean isWritten(String thrower) {
        return thrower.startsWith("DoorstepRides") || thrower.startsWith("PlainModel");
    }
}
