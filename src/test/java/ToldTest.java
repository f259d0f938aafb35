/** Promises 1 to 6: what is told. */
public final class ToldTest {
    private ToldTest() {
    }

    public static void main(String[] args) {
        Checks.runAll(ToldTest.class);
    }

    private static void promise1() {
        DoorstepRides x = new DoorstepRides();
        Checks.due("day", x.day(), 0);
        Checks.due("now", x.now(), 0);
        Checks.due("patterns", x.patterns(), 0);
        Checks.due("money", x.money(), 0);
        for (int what = 0; what <= 9; what++) {
            Checks.due("count " + what, x.count(what), 0);
        }
        Checks.refused("no rider", Checks.INDEX, () -> x.riderOf(0, 0));
        Checks.refused("no vehicle", Checks.INDEX, () -> x.vehicleOf(0, 0));
        Checks.refused("no request", Checks.INDEX, () -> x.requestOf(0, 0));
        Checks.due("summer", x.winter(false), false);
        Checks.due("no bus stops", x.busStop(3, false), 0);
    }

    private static void promise2() {
        DoorstepRides x = new DoorstepRides();
        Checks.due("first", x.rider(DoorstepRides.WALKS, 30, 0, false), 0);
        Checks.due("second", x.rider(DoorstepRides.CHAIR, 300, 10, true), 1);
        Checks.refused("kind -1", Checks.ARGUMENT, () -> x.rider(-1, 70, 5, false));
        Checks.refused("kind 3", Checks.ARGUMENT, () -> x.rider(3, 70, 5, false));
        Checks.refused("weight 29", Checks.ARGUMENT, () -> x.rider(0, 29, 5, false));
        Checks.refused("weight 301", Checks.ARGUMENT, () -> x.rider(0, 301, 5, false));
        Checks.refused("walk -1", Checks.ARGUMENT, () -> x.rider(0, 70, -1, false));
        Checks.refused("walk 11", Checks.ARGUMENT, () -> x.rider(0, 70, 11, false));
        Checks.due("a throw changes nothing", x.rider(DoorstepRides.WALKER, 70, 5, false), 2);
        Checks.due("known", x.riderOf(2, 0), 0);
        Checks.refused("not known", Checks.INDEX, () -> x.riderOf(3, 0));
    }

    private static void promise2Full() {
        DoorstepRides x = new DoorstepRides();
        for (int i = 0; i < 16; i++) {
            Checks.due("rider", x.rider(i % 3, 70, 5, false), i);
        }
        Checks.refused("a 17th", Checks.STATE, () -> x.rider(0, 70, 5, false));
        Checks.refused("a wrong 17th", Checks.ARGUMENT, () -> x.rider(0, 70, 11, false));
    }

    private static void promise3() {
        DoorstepRides x = new DoorstepRides();
        x.rider(DoorstepRides.WALKS, 70, 5, false);
        x.rider(DoorstepRides.WALKER, 70, 5, false);
        x.rider(DoorstepRides.CHAIR, 70, 5, false);
        x.busStop(0, true);
        for (int i = 0; i < 3; i++) {
            Checks.due("summer, 5 steps", x.owes(i, 2, 3), false);
            Checks.due("summer, 6 steps", x.owes(i, 3, 3), true);
        }
        Checks.due("was summer", x.winter(true), false);
        Checks.due("was winter", x.winter(true), true);
        Checks.due("winter, walks, 5 steps", x.owes(0, 2, 3), false);
        for (int i = 1; i < 3; i++) {
            Checks.due("winter, 2 steps", x.owes(i, 1, 6), false);
            Checks.due("winter, 3 steps", x.owes(i, 1, 7), true);
        }
        Checks.due("was winter still", x.winter(false), true);
        Checks.due("summer again", x.owes(1, 2, 3), false);
    }

    private static void promise4() {
        DoorstepRides x = new DoorstepRides();
        x.rider(DoorstepRides.WALKS, 70, 2, false);
        Checks.due("owed without bus stops", x.owes(0, 0, 0), true);
        Checks.due("one", x.busStop(35, true), 1);
        Checks.due("the same", x.busStop(35, true), 1);
        Checks.due("too far", x.owes(0, 0, 1), true);
        Checks.due("two", x.busStop(0, true), 2);
        Checks.due("nearest of both", x.owes(0, 1, 34), false);
        Checks.due("not there", x.busStop(7, false), 2);
        Checks.due("taken away", x.busStop(35, false), 1);
        Checks.due("too far now", x.owes(0, 1, 34), true);
        Checks.due("the last one", x.busStop(0, false), 0);
        Checks.due("owed again", x.owes(0, 0, 0), true);
    }

    private static void promise4Wrong() {
        DoorstepRides x = new DoorstepRides();
        Checks.refused("place -1", Checks.ARGUMENT, () -> x.busStop(-1, true));
        Checks.refused("place 36", Checks.ARGUMENT, () -> x.busStop(36, true));
        Checks.refused("place -1, away", Checks.ARGUMENT, () -> x.busStop(-1, false));
        Checks.due("nothing changed", x.busStop(1, false), 0);
        for (int place = 0; place < 36; place++) {
            Checks.due("all places", x.busStop(place, true), place + 1);
        }
    }

    private static void promise5() {
        DoorstepRides x = new DoorstepRides();
        Checks.due("first", x.vehicle(0, 1, 0, 50), 0);
        Checks.due("second", x.vehicle(35, 8, 3, 400), 1);
        int[] due = {35, 0, 0, 0, 0, 0, 1, DoorstepRides.NONE, 1};
        for (int what = 0; what < due.length; what++) {
            Checks.due("vehicleOf 1 " + what, x.vehicleOf(1, what), due[what]);
        }
        Checks.refused("base -1", Checks.ARGUMENT, () -> x.vehicle(-1, 1, 0, 50));
        Checks.refused("base 36", Checks.ARGUMENT, () -> x.vehicle(36, 1, 0, 50));
        Checks.refused("seats 0", Checks.ARGUMENT, () -> x.vehicle(0, 0, 0, 50));
        Checks.refused("seats 9", Checks.ARGUMENT, () -> x.vehicle(0, 9, 0, 50));
        Checks.refused("ties -1", Checks.ARGUMENT, () -> x.vehicle(0, 1, -1, 50));
        Checks.refused("ties 4", Checks.ARGUMENT, () -> x.vehicle(0, 1, 4, 50));
        Checks.refused("lift 49", Checks.ARGUMENT, () -> x.vehicle(0, 1, 0, 49));
        Checks.refused("lift 401", Checks.ARGUMENT, () -> x.vehicle(0, 1, 0, 401));
        Checks.due("third", x.vehicle(5, 4, 1, 100), 2);
    }

    private static void promise5Full() {
        DoorstepRides x = new DoorstepRides();
        for (int i = 0; i < 4; i++) {
            Checks.due("vehicle", x.vehicle(i, 4, 1, 100), i);
        }
        Checks.refused("a fifth", Checks.STATE, () -> x.vehicle(0, 4, 1, 100));
        Checks.refused("a wrong fifth", Checks.ARGUMENT, () -> x.vehicle(0, 4, 1, 401));
    }

    private static void promise5ToldLate() {
        DoorstepRides x = new DoorstepRides();
        x.pass(77);
        x.vehicle(14, 4, 1, 100);
        Checks.due("free from 0 on, whatever the minute", x.vehicleOf(0, 1), 0);
        Checks.due("at its base", x.vehicleOf(0, 0), 14);
        x.rider(0, 70, 5, false);
        x.ask(0, 14, 15, 78);
        Checks.due("leaves in the next minute", x.stopOf(0, 0, 2), 78);
    }

    private static void promise6() {
        DoorstepRides x = new DoorstepRides();
        Checks.refused("no vehicle", Checks.INDEX, () -> x.lift(0, true));
        x.vehicle(0, 8, 3, 400);
        x.rider(DoorstepRides.CHAIR, 70, 5, false);
        x.rider(DoorstepRides.WALKER, 70, 5, false);
        Checks.refused("vehicle -1", Checks.INDEX, () -> x.lift(-1, true));
        Checks.refused("vehicle 1", Checks.INDEX, () -> x.lift(1, true));
        Checks.due("it worked", x.lift(0, false), true);
        Checks.due("told", x.vehicleOf(0, 6), 0);
        Checks.due("it did not", x.lift(0, false), false);
        Checks.due("a chair", x.requestOf(x.ask(0, 1, 2, 50), 1), DoorstepRides.NO_ROOM);
        Checks.due("a walker needs no lift", x.requestOf(x.ask(1, 1, 2, 50), 0), DoorstepRides.PROMISED);
        x.end();
        Checks.due("broken the next day too", x.lift(0, true), false);
        Checks.due("a chair again", x.requestOf(x.ask(0, 1, 2, 50), 0), DoorstepRides.PROMISED);
    }

    private static void promise6Weight() {
        DoorstepRides x = new DoorstepRides();
        x.vehicle(0, 8, 3, 100);
        x.rider(DoorstepRides.CHAIR, 100, 5, false);
        x.rider(DoorstepRides.CHAIR, 101, 5, false);
        x.rider(DoorstepRides.WALKER, 101, 5, false);
        Checks.due("it bears 100", x.requestOf(x.ask(0, 1, 2, 50), 0), DoorstepRides.PROMISED);
        Checks.due("but not 101", x.requestOf(x.ask(1, 1, 2, 50), 1), DoorstepRides.NO_ROOM);
        Checks.due("who has a walker is not lifted", x.requestOf(x.ask(2, 1, 2, 50), 0), DoorstepRides.PROMISED);
    }
}
