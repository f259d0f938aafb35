/** Promises 14 to 26: questions. */
public final class QuestionsTest {
    private static final int NONE = DoorstepRides.NONE;

    private QuestionsTest() {
    }

    public static void main(String[] args) {
        Checks.runAll(QuestionsTest.class);
    }

    private static void dueRequest(DoorstepRides x, int request, int... due) {
        for (int what = 0; what < due.length; what++) {
            Checks.due("requestOf " + request + " " + what, x.requestOf(request, what), due[what]);
        }
    }

    private static void promises14And15() {
        DoorstepRides x = new DoorstepRides();
        Checks.due("day", x.day(), 0);
        x.pass(100);
        Checks.due("day", x.day(), 0);
        Checks.due("now", x.now(), 100);
        x.pass(120);
        Checks.due("now", x.now(), 220);
        x.end();
        Checks.due("day", x.day(), 1);
        Checks.due("now", x.now(), 0);
        x.end();
        Checks.due("day", x.day(), 2);
    }

    private static void promise16() {
        DoorstepRides x = new DoorstepRides();
        Checks.refused("no rider", Checks.INDEX, () -> x.owes(0, 0, 1));
        x.rider(0, 70, 0, false);
        x.rider(2, 70, 10, false);
        Checks.due("no bus stops", x.owes(0, 7, 7), true);
        x.busStop(7, true);
        x.busStop(28, true);
        Checks.due("from one to the other", x.owes(0, 7, 28), false);
        Checks.due("a step", x.owes(0, 8, 28), true);
        Checks.due("a step at the end", x.owes(0, 7, 29), true);
        Checks.due("the same place", x.owes(0, 7, 7), false);
        Checks.due("10 steps", x.owes(1, 5, 30), false);
        Checks.due("8 steps", x.owes(1, 0, 35), false);
        x.winter(true);
        Checks.due("10 steps in winter", x.owes(1, 5, 30), true);
        Checks.due("6 steps in winter", x.owes(1, 5, 1), true);
        Checks.due("5 steps in winter", x.owes(1, 5, 7), false);
        Checks.refused("rider -1", Checks.INDEX, () -> x.owes(-1, 0, 1));
        Checks.refused("rider 2", Checks.INDEX, () -> x.owes(2, 36, 1));
        Checks.refused("from -1", Checks.ARGUMENT, () -> x.owes(0, -1, 1));
        Checks.refused("from 36", Checks.ARGUMENT, () -> x.owes(0, 36, 1));
        Checks.refused("to -1", Checks.ARGUMENT, () -> x.owes(0, 1, -1));
        Checks.refused("to 36", Checks.ARGUMENT, () -> x.owes(0, 1, 36));
    }

    private static void promise17() {
        DoorstepRides x = Checks.town(8, 3);
        x.ask(0, 0, 1, 50);
        x.ask(0, 0, 1, 90);
        x.ask(1, 0, 1, 300);
        x.busStop(0, true);
        x.busStop(1, true);
        x.ask(0, 0, 1, 50);
        Checks.due("not those that were denied", x.riderOf(0, 0), 2);
        Checks.due("no no-shows", x.riderOf(0, 1), 0);
        x.cancel(0);
        Checks.due("of those", x.riderOf(0, 0), 2);
        Checks.due("one", x.riderOf(0, 1), 1);
        x.absent(1);
        x.pass(92);
        Checks.due("two", x.riderOf(0, 1), 2);
        Checks.due("not suspended", x.riderOf(0, 2), 0);
        Checks.due("another rider", x.riderOf(1, 0), 1);
        Checks.due("with none", x.riderOf(1, 1), 0);
        x.busStop(0, false);
        x.busStop(1, false);
        x.cancel(x.ask(0, 0, 1, 100));
        Checks.due("suspended", x.riderOf(0, 2), 1);
        Checks.due("not another", x.riderOf(1, 2), 0);
        Checks.refused("what -1", Checks.ARGUMENT, () -> x.riderOf(0, -1));
        Checks.refused("what 3", Checks.ARGUMENT, () -> x.riderOf(0, 3));
        Checks.refused("rider -1", Checks.INDEX, () -> x.riderOf(-1, 0));
        Checks.refused("rider 3", Checks.INDEX, () -> x.riderOf(3, 3));
    }

    private static void promise17LastThirtyDays() {
        DoorstepRides x = Checks.town(8, 3);
        x.cancel(x.ask(0, 0, 1, 50));
        x.end();
        x.ask(0, 0, 1, 50);
        for (int i = 1; i < 29; i++) {
            x.end();
        }
        Checks.due("day 29: both", x.riderOf(0, 0), 2);
        Checks.due("day 29: one no-show", x.riderOf(0, 1), 1);
        x.end();
        Checks.due("day 30: one", x.riderOf(0, 0), 1);
        Checks.due("day 30: no no-show", x.riderOf(0, 1), 0);
        Checks.due("of all days", x.count(9), 1);
        x.end();
        Checks.due("day 31: none", x.riderOf(0, 0), 0);
    }

    private static void promise18() {
        DoorstepRides x = Checks.town(8, 3);
        x.end();
        x.ask(0, 5, 7, 20);
        dueRequest(x, 0, DoorstepRides.PROMISED, 0, 20, 0, NONE, NONE, NONE, 0, 0, 1, 0);
        x.pass(21);
        dueRequest(x, 0, DoorstepRides.PROMISED, 0, 20, 0, NONE, NONE, NONE, 0, 0, 1, 0);
        x.pass(12);
        dueRequest(x, 0, DoorstepRides.ABOARD, 0, 20, 0, 20, 22, NONE, 0, 0, 1, 0);
        x.pass(1);
        dueRequest(x, 0, DoorstepRides.SERVED, 0, 20, 0, 20, 22, 32, 0, 0, 1, 0);
        x.end();
        dueRequest(x, 0, DoorstepRides.SERVED, 0, 20, 0, 20, 22, 32, 0, 0, 1, 0);
        x.ask(1, 0, 1, 50);
        x.cancel(1);
        dueRequest(x, 1, DoorstepRides.CANCELLED, 0, 50, 0, NONE, NONE, NONE, 0, 0, 2, 1);
    }

    private static void promise18Wrong() {
        DoorstepRides x = Checks.town(8, 3);
        Checks.refused("none", Checks.INDEX, () -> x.requestOf(0, 0));
        x.ask(0, 5, 7, 20);
        Checks.refused("-1", Checks.INDEX, () -> x.requestOf(-1, 0));
        Checks.refused("1", Checks.INDEX, () -> x.requestOf(1, 11));
        Checks.refused("what -1", Checks.ARGUMENT, () -> x.requestOf(0, -1));
        Checks.refused("what 11", Checks.ARGUMENT, () -> x.requestOf(0, 11));
    }

    private static void promise18Denied() {
        DoorstepRides x = Checks.town(8, 3);
        x.lift(0, false);
        x.ask(2, 5, 7, 20);
        dueRequest(x, 0, DoorstepRides.DENIED, DoorstepRides.NO_ROOM, NONE, NONE, NONE, NONE, NONE, 0, 0, 0, 0);
    }

    /** Picked up too late, but missed: late all the same. Then aboard too long. */
    private static void promise18LateAndLong() {
        DoorstepRides x = Checks.town(8, 3);
        x.ask(0, 0, 1, 50);
        x.absent(0);
        x.traffic(0, 60);
        x.traffic(0, 11);
        x.pass(73);
        dueRequest(x, 0, DoorstepRides.MISSED, 0, 50, 0, 71, 73, NONE, 1, 0, 0, 1);
        x.ask(0, 0, 1, 100);
        x.pass(29);
        x.traffic(0, 13);
        Checks.due("not done, not long", x.requestOf(1, 8), 0);
        x.pass(17);
        dueRequest(x, 1, DoorstepRides.SERVED, 0, 100, 0, 100, 102, 117, 0, 1, 0, 0);
        x.ask(0, 1, 0, 120);
        x.traffic(0, 22);
        x.pass(30);
        dueRequest(x, 2, DoorstepRides.SERVED, 0, 120, 0, 141, 143, 145, 1, 0, 0, 0);
        Checks.due("late", x.count(7), 2);
        Checks.due("long", x.count(8), 1);
    }

    private static void promise19() {
        DoorstepRides x = Checks.town(8, 3);
        Checks.due("never back", x.vehicleOf(0, 7), NONE);
        x.ask(1, 5, 7, 20);
        int[] due = {0, 0, 2, 0, 0, 0, 1, 42, 1};
        for (int what = 0; what < due.length; what++) {
            Checks.due("vehicleOf " + what, x.vehicleOf(0, what), due[what]);
        }
        x.pass(24);
        int[] aboard = {5, 24, 1, 1, 0, 1, 1, 42, 1};
        for (int what = 0; what < aboard.length; what++) {
            Checks.due("then vehicleOf " + what, x.vehicleOf(0, what), aboard[what]);
        }
        Checks.refused("-1", Checks.INDEX, () -> x.vehicleOf(-1, 0));
        Checks.refused("1", Checks.INDEX, () -> x.vehicleOf(1, 9));
        Checks.refused("what -1", Checks.ARGUMENT, () -> x.vehicleOf(0, -1));
        Checks.refused("what 9", Checks.ARGUMENT, () -> x.vehicleOf(0, 9));
    }

    private static void promise19SeatsAndChairs() {
        DoorstepRides x = new DoorstepRides();
        x.vehicle(0, 8, 3, 400);
        x.rider(2, 70, 5, true);
        x.rider(1, 70, 5, true);
        x.rider(0, 70, 5, false);
        x.ask(0, 0, 5, 50);
        x.ask(1, 0, 5, 56);
        x.ask(2, 0, 5, 60);
        int[] picked = {x.stopOf(0, 0, 3), x.stopOf(0, 1, 3), x.stopOf(0, 2, 3)};
        int[] seats = {3, 2, 1};
        int taken = 0;
        int chairs = 0;
        for (int i = 0; i < 3; i++) {
            int request = x.stopOf(0, 0, 0);
            x.pass(picked[i] - x.now() - 1);
            Checks.due("not yet", x.vehicleOf(0, 3), taken);
            x.pass(1);
            taken += seats[request];
            chairs += request == 0 ? 1 : 0;
            Checks.due("seats", x.vehicleOf(0, 3), taken);
            Checks.due("chairs", x.vehicleOf(0, 4), chairs);
            Checks.due("seats anew", x.seatsAnew(0), taken);
        }
        Checks.due("all six", taken, 6);
    }

    private static void promise19Right() {
        DoorstepRides x = Checks.town(8, 3);
        Checks.due("without stops", x.vehicleOf(0, 8), 1);
        x.ask(0, 0, 1, 592);
        Checks.due("back at 600", x.vehicleOf(0, 7), 600);
        Checks.due("right", x.vehicleOf(0, 8), 1);
        for (int i = 0; i < 9; i++) {
            x.traffic(0, 60);
        }
        x.traffic(0, 52);
        Checks.due("free at 592", x.vehicleOf(0, 8), 1);
        x.traffic(0, 1);
        Checks.due("back at 601", x.vehicleOf(0, 7), 601);
        Checks.due("not right", x.vehicleOf(0, 8), 0);
        DoorstepRides y = Checks.town(8, 3);
        y.ask(0, 0, 1, 50);
        y.pass(50);
        y.traffic(0, 20);
        Checks.due("begins at 70", y.vehicleOf(0, 8), 1);
        y.traffic(0, 1);
        Checks.due("begins at 71", y.vehicleOf(0, 8), 0);
        y.pass(23);
        Checks.due("once it is done it is right again", y.vehicleOf(0, 8), 1);
    }

    private static void promise20() {
        DoorstepRides x = Checks.town(8, 3);
        Checks.refused("no vehicle", Checks.INDEX, () -> x.stopOf(1, 0, 0));
        Checks.refused("vehicle -1", Checks.INDEX, () -> x.stopOf(-1, 0, 0));
        Checks.refused("no stop", Checks.INDEX, () -> x.stopOf(0, 0, 0));
        x.ask(2, 5, 7, 20);
        Checks.refused("stop -1", Checks.INDEX, () -> x.stopOf(0, -1, 0));
        Checks.refused("stop 2", Checks.INDEX, () -> x.stopOf(0, 2, 4));
        Checks.refused("what -1", Checks.ARGUMENT, () -> x.stopOf(0, 0, -1));
        Checks.refused("what 4", Checks.ARGUMENT, () -> x.stopOf(0, 1, 4));
        int[][] due = {{0, 0, 20, 26}, {0, 1, 36, 42}};
        for (int stop = 0; stop < 2; stop++) {
            for (int what = 0; what < 4; what++) {
                Checks.due("stopOf " + stop + " " + what, x.stopOf(0, stop, what), due[stop][what]);
            }
        }
    }

    private static void promise20Plan() {
        DoorstepRides x = Checks.town(8, 3);
        x.ask(0, 5, 7, 5);
        Checks.due("the next minute", x.stopOf(0, 0, 2), 11);
        x.cancel(0);
        x.ask(0, 5, 7, 40);
        Checks.due("its minute", x.stopOf(0, 0, 2), 40);
        x.traffic(0, 31);
        Checks.due("free at 31", x.stopOf(0, 0, 2), 41);
        Checks.due("what is behind it too", x.stopOf(0, 1, 2), 53);
        x.pass(31);
        x.traffic(0, 5);
        Checks.due("held up", x.stopOf(0, 0, 2), 46);
        Checks.due("its end", x.stopOf(0, 0, 3), 48);
        Checks.due("and what is behind", x.stopOf(0, 1, 3), 60);
        x.pass(17);
        x.ask(0, 7, 5, 200);
        Checks.due("waits for the minute", x.stopOf(0, 1, 2), 200);
        Checks.due("another request", x.stopOf(0, 1, 0), 2);
        Checks.due("leaves for a drop at once", x.stopOf(0, 2, 2), 212);
    }

    private static void promise21() {
        DoorstepRides x = Checks.town(8, 3);
        Checks.refused("-1", Checks.INDEX, () -> x.seatsAnew(-1));
        Checks.refused("1", Checks.INDEX, () -> x.seatsAnew(1));
        Checks.due("none", x.seatsAnew(0), 0);
        x.ask(2, 0, 1, 20);
        x.ask(0, 0, 1, 100);
        x.absent(1);
        x.pass(25);
        Checks.due("not yet", x.seatsAnew(0), 0);
        x.pass(1);
        Checks.due("a chair", x.seatsAnew(0), 2);
        x.pass(8);
        Checks.due("left", x.seatsAnew(0), 0);
        x.pass(68);
        Checks.due("missed", x.requestOf(1, 0), DoorstepRides.MISSED);
        Checks.due("takes none", x.seatsAnew(0), 0);
        x.ask(2, 1, 0, 150);
        x.lift(0, false);
        x.pass(70);
        Checks.due("failed", x.requestOf(2, 0), DoorstepRides.FAILED);
        Checks.due("takes none either", x.seatsAnew(0), 0);
    }

    private static void promise22() {
        DoorstepRides x = Checks.town(8, 3);
        Checks.refused("-1", Checks.INDEX, () -> x.drive(-1));
        Checks.refused("1", Checks.INDEX, () -> x.drive(1));
        Checks.due("at its base", x.drive(0), 0);
        x.ask(0, 5, 35, 100);
        Checks.due("over both", x.drive(0), 10 + 10 + 20);
        x.pass(95);
        Checks.due("on its way: from where it left", x.drive(0), 40);
        x.pass(7);
        Checks.due("from where it is", x.drive(0), 30);
        x.pass(12);
        Checks.due("back only", x.drive(0), 20);
        x.ask(0, 35, 34, 200);
        Checks.due("from there", x.drive(0), 2 + 18);
        x.end();
        Checks.due("at its base again", x.drive(0), 0);
    }

    private static void promise23() {
        DoorstepRides x = Checks.town(8, 3);
        Checks.refused("-1", Checks.INDEX, () -> x.leastDrive(-1));
        Checks.refused("1", Checks.INDEX, () -> x.leastDrive(1));
        Checks.due("without stops", x.leastDrive(0), 0);
        x.ask(0, 5, 0, 100);
        Checks.due("the pick stays ahead", x.leastDrive(0), 20);
        Checks.due("its drive", x.drive(0), 20);
        for (int i = 0; i < 3; i++) {
            x.traffic(0, 60);
        }
        Checks.due("none is right", x.leastDrive(0), NONE);
    }

    /** What is put in one by one may be worse than the best order of all. */
    private static void promise23Six() {
        DoorstepRides x = Checks.town(8, 3);
        x.ask(0, 0, 1, 100);
        x.ask(0, 0, 1, 112);
        x.ask(0, 0, 1, 106);
        Checks.due("six stops", x.vehicleOf(0, 2), 6);
        Checks.due("once there and back", x.leastDrive(0), 4);
        x.ask(0, 0, 1, 300);
        Checks.due("eight stops", x.leastDrive(0), NONE);
        x.cancel(3);
        Checks.due("six again", x.leastDrive(0), 4);
        x.ask(0, 0, 1, 300);
        x.pass(x.stopOf(0, 0, 3));
        Checks.due("one is aboard: seven stops", x.vehicleOf(0, 2), 7);
        Checks.due("seven stops", x.leastDrive(0), NONE);
        DoorstepRides y = Checks.town(8, 3);
        y.ask(0, 5, 0, 110);
        y.ask(0, 3, 2, 108);
        y.ask(0, 5, 3, 102);
        Checks.due("all at their minutes", y.requestOf(2, 2), 102);
        Checks.due("one by one", y.drive(0), 24);
        Checks.due("to 5 and back once", y.leastDrive(0), 20);
    }

    private static void promise23LeftFirst() {
        DoorstepRides x = Checks.town(8, 3);
        x.ask(0, 2, 3, 30);
        x.ask(0, 1, 3, 40);
        x.traffic(0, 28);
        Checks.due("on its way", x.drive(0), 12);
        x.cancel(1);
        x.pass(28);
        Checks.due("left", x.vehicleOf(0, 5), 1);
        x.ask(0, 1, 3, 33);
        Checks.due("behind it", x.stopOf(0, 0, 0), 0);
        Checks.due("stays first", x.leastDrive(0), 4 + 2 + 4 + 6);
    }

    private static void promise24No() {
        DoorstepRides x = Checks.town(8, 3);
        x.lift(0, false);
        x.ask(2, 0, 1, 50);
        Checks.due("one is none", x.patterns(), 0);
        x.ask(2, 0, 1, 50);
        Checks.due("two are a pattern", x.patterns(), 1);
    }

    private static void promise24NoAmongMany() {
        DoorstepRides x = Checks.town(8, 3);
        x.lift(0, false);
        x.ask(2, 0, 1, 50);
        x.ask(2, 0, 1, 50);
        for (int i = 0; i < 37; i++) {
            x.cancel(x.ask(0, 0, 1, 300));
        }
        Checks.due("2 of 39", x.patterns(), 1);
        x.busStop(0, true);
        x.ask(0, 0, 1, 50);
        Checks.due("one not owed does not count", x.patterns(), 1);
        x.busStop(0, false);
        for (int i = 0; i < 3; i++) {
            x.cancel(x.ask(1, 0, 1, 50));
            Checks.due("2 of 40 and more", x.patterns(), 0);
        }
        x.ask(2, 0, 1, 50);
        Checks.due("3 of 43", x.patterns(), 1);
        DoorstepRides y = Checks.town(8, 3);
        for (int i = 0; i < 3; i++) {
            y.cancel(y.ask(0, 0, 1, 50));
        }
        y.lift(0, false);
        y.ask(2, 0, 1, 50);
        y.ask(2, 0, 1, 50);
        for (int i = 0; i < 50; i++) {
            y.ask(0, 0, 1, 50);
        }
        Checks.due("those of suspended riders do not count", y.patterns(), 1);
    }

    /** Ten are served, the first of them late, then an eleventh. */
    private static void promise24Late() {
        DoorstepRides x = Checks.town(8, 3);
        x.ask(0, 0, 1, 10);
        x.traffic(0, 31);
        x.pass(38);
        Checks.due("1 of 1", x.patterns(), 2);
        for (int i = 1; i < 10; i++) {
            x.end();
            Checks.due("1 of fewer than 10", x.patterns(), 2);
            x.ask(0, 0, 1, 50);
        }
        x.end();
        Checks.due("served", x.count(DoorstepRides.SERVED), 10);
        Checks.due("1 of 10", x.patterns(), 0);
        x.ask(0, 0, 1, 10);
        x.pass(12);
        x.traffic(0, 13);
        x.pass(20);
        Checks.due("long", x.requestOf(10, 8), 1);
        Checks.due("2 of 11", x.patterns(), 2);
        DoorstepRides y = Checks.town(8, 3);
        y.ask(0, 0, 1, 10);
        y.absent(0);
        y.traffic(0, 31);
        y.pass(40);
        Checks.due("late, but missed", y.requestOf(0, 7), 1);
        Checks.due("not served", y.patterns(), 0);
        Checks.due("what is both counts once", bothOnce(), 0);
    }

    private static int bothOnce() {
        DoorstepRides x = Checks.town(8, 3);
        x.ask(0, 0, 1, 10);
        x.traffic(0, 31);
        x.pass(33);
        x.traffic(0, 13);
        x.pass(20);
        Checks.due("late", x.requestOf(0, 7), 1);
        Checks.due("and long", x.requestOf(0, 8), 1);
        for (int i = 0; i < 9; i++) {
            x.end();
            x.ask(0, 0, 1, 10);
        }
        x.end();
        Checks.due("served", x.count(DoorstepRides.SERVED), 10);
        return x.patterns();
    }

    private static void promise24LastTwentyDays() {
        DoorstepRides x = Checks.town(8, 3);
        x.ask(0, 0, 1, 10);
        x.traffic(0, 31);
        x.pass(38);
        x.lift(0, false);
        x.ask(2, 0, 1, 50);
        x.ask(2, 0, 1, 50);
        Checks.due("both", x.patterns(), 3);
        for (int i = 0; i < 19; i++) {
            x.end();
        }
        Checks.due("day 19", x.patterns(), 3);
        x.end();
        Checks.due("day 20", x.patterns(), 0);
        Checks.due("of all days", x.count(7), 1);
    }

    private static void promise25() {
        DoorstepRides x = Checks.town(8, 3);
        x.ask(0, 0, 1, 10);
        x.ask(0, 0, 1, 40);
        x.ask(0, 0, 1, 80);
        x.ask(2, 0, 1, 120);
        x.ask(0, 0, 1, 160);
        x.ask(0, 0, 1, 200);
        x.absent(1);
        x.cancel(2);
        x.lift(0, false);
        x.ask(2, 0, 1, 240);
        x.pass(120);
        x.pass(42);
        int[] due = {1, 1, 1, 1, 1, 1, 1, 0, 0, 1};
        for (int what = 0; what < due.length; what++) {
            Checks.due("count " + what, x.count(what), due[what]);
        }
        x.end();
        x.end();
        int[] later = {0, 0, 3, 1, 1, 1, 1, 0, 0, 1};
        for (int what = 0; what < later.length; what++) {
            Checks.due("later count " + what, x.count(what), later[what]);
        }
        Checks.refused("-1", Checks.ARGUMENT, () -> x.count(-1));
        Checks.refused("10", Checks.ARGUMENT, () -> x.count(10));
        Checks.due("no show", x.requestOf(1, 10), 1);
        Checks.due("in good time", x.requestOf(2, 10), 0);
    }

    private static void promise26() {
        DoorstepRides x = Checks.town(8, 3);
        x.ask(0, 0, 35, 10);
        Checks.due("not yet", x.money(), 0);
        x.pass(33);
        Checks.due("not yet", x.money(), 0);
        x.pass(1);
        Checks.due("ten steps", x.money(), 400);
        x.ask(0, 34, 28, 100);
        x.pass(120);
        Checks.due("one step more", x.money(), 620);
        x.ask(0, 28, 29, 200);
        x.traffic(0, 60);
        x.traffic(0, 7);
        x.pass(100);
        Checks.due("late", x.requestOf(2, 7), 1);
        Checks.due("costs nothing", x.money(), 620);
        x.ask(0, 29, 28, 300);
        x.pass(48);
        x.traffic(0, 13);
        x.pass(50);
        Checks.due("long", x.requestOf(3, 8), 1);
        Checks.due("costs nothing either", x.money(), 620);
        x.end();
        x.ask(0, 0, 1, 50);
        x.absent(4);
        x.ask(0, 0, 1, 100);
        x.cancel(5);
        x.end();
        Checks.due("of all days", x.money(), 620);
    }

    private static void questionsChangeNothing() {
        DoorstepRides x = Checks.town(8, 3);
        x.ask(0, 0, 5, 100);
        x.ask(1, 1, 4, 100);
        x.ask(0, 4, 3, 110);
        long before = fingerprint(x);
        x.leastDrive(0);
        x.drive(0);
        x.patterns();
        Checks.due("the same", fingerprint(x), before);
        x.pass(105);
        before = fingerprint(x);
        x.leastDrive(0);
        Checks.due("the same on the way", fingerprint(x), before);
    }

    private static long fingerprint(DoorstepRides x) {
        long all = 7;
        for (int stop = 0; stop < x.vehicleOf(0, 2); stop++) {
            for (int what = 0; what < 4; what++) {
                all = all * 31 + x.stopOf(0, stop, what);
            }
        }
        for (int what = 0; what <= 8; what++) {
            all = all * 31 + x.vehicleOf(0, what);
        }
        return all;
    }
}
