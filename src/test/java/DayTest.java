/** Promises 10 to 13: the day. */
public final class DayTest {
    private static final int ABOARD = DoorstepRides.ABOARD, SERVED = DoorstepRides.SERVED;
    private static final int FAILED = DoorstepRides.FAILED, PROMISED = DoorstepRides.PROMISED;

    private DayTest() {
    }

    public static void main(String[] args) {
        Checks.runAll(DayTest.class);
    }

    private static void dueVehicle(String when, DoorstepRides x, int place, int free, int stops, int left) {
        Checks.due(when + ": place", x.vehicleOf(0, 0), place);
        Checks.due(when + ": free", x.vehicleOf(0, 1), free);
        Checks.due(when + ": stops", x.vehicleOf(0, 2), stops);
        Checks.due(when + ": left", x.vehicleOf(0, 5), left);
    }

    /** From 0 to 5, to pick up there at 20 and to drop at 7, five steps on. */
    private static void promise10() {
        DoorstepRides x = Checks.town(8, 3);
        x.ask(0, 5, 7, 20);
        Checks.due("9", x.pass(9), 9);
        dueVehicle("at 9", x, 0, 0, 2, 0);
        Checks.due("10", x.pass(1), 10);
        dueVehicle("at 10", x, 0, 0, 2, 1);
        x.pass(11);
        dueVehicle("at 21", x, 0, 0, 2, 1);
        Checks.due("promised at 21", x.requestOf(0, 0), PROMISED);
        x.pass(1);
        dueVehicle("at 22", x, 5, 22, 1, 1);
        Checks.due("aboard at 22", x.requestOf(0, 0), ABOARD);
        Checks.due("began", x.requestOf(0, 4), 20);
        Checks.due("ended", x.requestOf(0, 5), 22);
        x.pass(11);
        dueVehicle("at 33", x, 5, 22, 1, 1);
        x.pass(1);
        dueVehicle("at 34", x, 7, 34, 0, 0);
        Checks.due("served at 34", x.requestOf(0, 0), SERVED);
        Checks.due("drop began", x.requestOf(0, 6), 32);
        x.pass(120);
        dueVehicle("at 154", x, 7, 34, 0, 0);
    }

    private static void promise10Wrong() {
        DoorstepRides x = new DoorstepRides();
        Checks.refused("0", Checks.ARGUMENT, () -> x.pass(0));
        Checks.refused("-1", Checks.ARGUMENT, () -> x.pass(-1));
        Checks.refused("121", Checks.ARGUMENT, () -> x.pass(121));
        Checks.refused("the greatest", Checks.ARGUMENT, () -> x.pass(Integer.MAX_VALUE));
        for (int i = 1; i <= 4; i++) {
            Checks.due("120 more", x.pass(120), 120 * i);
        }
        x.pass(1);
        Checks.refused("above 600", Checks.STATE, () -> x.pass(120));
        Checks.due("nothing changed", x.now(), 481);
        Checks.refused("wrong and above 600", Checks.ARGUMENT, () -> x.pass(121));
        Checks.due("to 600", x.pass(119), 600);
        Checks.refused("601", Checks.STATE, () -> x.pass(1));
    }

    private static void promise10Kinds() {
        int[] minutes = {2, 4, 6};
        for (int kind = 0; kind <= 2; kind++) {
            DoorstepRides x = Checks.town(8, 3);
            x.ask(kind, 0, 1, 50);
            x.pass(50 + minutes[kind] - 1);
            Checks.due("not yet aboard", x.requestOf(0, 0), PROMISED);
            x.pass(1);
            Checks.due("aboard", x.requestOf(0, 0), ABOARD);
            x.pass(2 + minutes[kind] - 1);
            Checks.due("not yet served", x.requestOf(0, 0), ABOARD);
            x.pass(1);
            Checks.due("served", x.requestOf(0, 0), SERVED);
            Checks.due("pick", x.requestOf(0, 4), 50);
            Checks.due("drop", x.requestOf(0, 6), 52 + minutes[kind]);
        }
    }

    private static void promise10WaitsToLeave() {
        DoorstepRides x = Checks.town(8, 3);
        x.ask(0, 0, 1, 20);
        x.ask(0, 1, 2, 60);
        x.pass(26);
        dueVehicle("served, and nothing to leave for", x, 1, 26, 2, 0);
        x.pass(33);
        dueVehicle("at 59", x, 1, 26, 2, 0);
        x.pass(1);
        dueVehicle("at 60", x, 1, 26, 2, 1);
        DoorstepRides y = Checks.town(8, 3);
        y.ask(0, 0, 1, 20);
        y.traffic(0, 30);
        y.pass(29);
        dueVehicle("not free", y, 0, 30, 2, 0);
        y.pass(1);
        dueVehicle("free", y, 0, 30, 2, 1);
        Checks.due("begins when it leaves", y.stopOf(0, 0, 2), 30);
    }

    private static void promise10LiftAtPick() {
        DoorstepRides x = Checks.town(8, 3);
        x.ask(2, 0, 1, 20);
        x.ask(0, 0, 1, 20);
        x.lift(0, false);
        x.pass(30);
        Checks.due("failed", x.requestOf(0, 0), FAILED);
        Checks.due("its pick is done", x.requestOf(0, 5), 28);
        Checks.due("its drop is taken out", x.stopOf(0, 0, 0), 1);
        Checks.due("no chair aboard", x.vehicleOf(0, 4), 0);
        Checks.due("who walks needs no lift", x.requestOf(1, 0), ABOARD);
        Checks.due("no no-show", x.count(9), 0);
        DoorstepRides y = Checks.town(8, 3);
        y.ask(2, 0, 1, 20);
        y.absent(0);
        y.lift(0, false);
        y.pass(30);
        Checks.due("missed first", y.requestOf(0, 0), DoorstepRides.MISSED);
    }

    /** Dropped by 34, if the lift works. */
    private static void promise10LiftAtDrop() {
        DoorstepRides x = Checks.town(8, 3);
        x.ask(2, 0, 1, 20);
        x.pass(27);
        x.lift(0, false);
        Checks.due("end by the plan", x.stopOf(0, 0, 3), 34);
        x.pass(7);
        Checks.due("aboard still", x.requestOf(0, 0), ABOARD);
        Checks.due("a chair", x.vehicleOf(0, 4), 1);
        Checks.due("two seats", x.vehicleOf(0, 3), 2);
        Checks.due("its begin stays", x.stopOf(0, 0, 2), 28);
        Checks.due("30 minutes later", x.stopOf(0, 0, 3), 64);
        x.pass(29);
        Checks.due("aboard at 63", x.requestOf(0, 0), ABOARD);
        x.pass(1);
        Checks.due("once", x.requestOf(0, 0), SERVED);
        Checks.due("no chair", x.vehicleOf(0, 4), 0);
        Checks.due("no seats", x.vehicleOf(0, 3), 0);
        Checks.due("drop began", x.requestOf(0, 6), 28);
        Checks.due("not long", x.requestOf(0, 8), 0);
    }

    private static void promise10LiftMendedInTime() {
        DoorstepRides x = Checks.town(8, 3);
        x.ask(2, 0, 1, 20);
        x.ask(0, 0, 1, 60);
        x.pass(26);
        x.lift(0, false);
        x.pass(8);
        x.lift(0, true);
        x.pass(29);
        Checks.due("its 30 minutes all the same", x.requestOf(0, 0), ABOARD);
        x.pass(1);
        Checks.due("served at 64", x.requestOf(0, 0), SERVED);
        DoorstepRides y = Checks.town(8, 3);
        y.ask(0, 0, 1, 20);
        y.lift(0, false);
        y.pass(26);
        Checks.due("who walks leaves at once", y.requestOf(0, 0), SERVED);
    }

    private static void promise11() {
        DoorstepRides x = Checks.town(8, 3);
        x.ask(0, 0, 1, 20);
        x.ask(2, 0, 35, 540);
        x.pass(30);
        Checks.due("none is left", x.end(), 0);
        Checks.due("the next day", x.day(), 1);
        Checks.due("its minute 0", x.now(), 0);
        dueVehicle("at 0", x, 0, 0, 0, 0);
        Checks.due("both were served", x.count(SERVED), 2);
        x.ask(0, 5, 7, 100);
        x.ask(0, 5, 7, 500);
        x.pass(102);
        for (int i = 0; i < 9; i++) {
            x.traffic(0, 60);
        }
        Checks.due("one is aboard, one still promised", x.end(), 2);
        Checks.due("failed", x.requestOf(2, 0), FAILED);
        Checks.due("failed too", x.requestOf(3, 0), FAILED);
        Checks.due("day of the request", x.requestOf(2, 9), 1);
        dueVehicle("at 0 again", x, 0, 0, 0, 0);
        Checks.due("no seats", x.vehicleOf(0, 3), 0);
        Checks.due("no seats by the stops of the day", x.seatsAnew(0), 0);
    }

    private static void promise11Wrong() {
        DoorstepRides x = Checks.town(8, 3);
        for (int i = 0; i < 400; i++) {
            x.end();
        }
        Checks.due("the day 400", x.day(), 400);
        Checks.due("goes on", x.pass(7), 7);
        Checks.refused("the last day", Checks.STATE, x::end);
        Checks.due("nothing changed", x.now(), 7);
    }

    private static void promise11PassesTheRest() {
        DoorstepRides x = Checks.town(8, 3);
        x.ask(2, 0, 1, 20);
        x.lift(0, false);
        Checks.due("failed by the lift, not by the end", x.end(), 0);
        Checks.due("failed", x.requestOf(0, 0), FAILED);
        Checks.due("its pick was done", x.requestOf(0, 4), 20);
        x.ask(0, 0, 1, 50);
        x.pass(51);
        for (int i = 0; i < 10; i++) {
            x.traffic(0, 60);
        }
        Checks.due("left, and not done by 600", x.end(), 1);
        Checks.due("no pick", x.requestOf(1, 4), DoorstepRides.NONE);
        Checks.due("not late then", x.requestOf(1, 7), 0);
        x.ask(0, 0, 1, 50);
        x.pass(53);
        for (int i = 0; i < 10; i++) {
            x.traffic(0, 60);
        }
        Checks.due("aboard at the end", x.end(), 1);
        Checks.due("failed, too", x.requestOf(2, 0), FAILED);
        Checks.due("its pick stays", x.requestOf(2, 5), 52);
        dueVehicle("at 0", x, 0, 0, 0, 0);
        x.ask(0, 0, 1, 50);
        x.pass(60);
        x.pass(120);
        x.pass(120);
        x.pass(120);
        x.pass(120);
        x.pass(60);
        Checks.due("at 600 already", x.end(), 0);
        Checks.due("the day", x.day(), 4);
    }

    private static void promise11EndsAt600() {
        DoorstepRides x = Checks.town(8, 3);
        x.ask(0, 0, 1, 592);
        holdUpBy(x, 594);
        Checks.due("drop ends at 600", x.stopOf(0, 1, 3), 600);
        Checks.due("none is left", x.end(), 0);
        Checks.due("served", x.requestOf(0, 0), SERVED);
        DoorstepRides y = Checks.town(8, 3);
        y.ask(0, 0, 1, 592);
        holdUpBy(y, 595);
        Checks.due("drop ends at 601", y.stopOf(0, 1, 3), 601);
        Checks.due("one is left", y.end(), 1);
        Checks.due("failed", y.requestOf(0, 0), FAILED);
    }

    private static void holdUpBy(DoorstepRides x, int minutes) {
        int left = minutes;
        while (left > 0) {
            x.traffic(0, Math.min(60, left));
            left -= 60;
        }
    }

    private static void promise12() {
        DoorstepRides x = Checks.town(8, 3);
        Checks.due("from now on", x.traffic(0, 7), 7);
        Checks.due("from when it is free", x.traffic(0, 5), 12);
        x.pass(12);
        Checks.due("from 12 on", x.traffic(0, 1), 13);
        x.pass(100);
        Checks.due("from now on, if it is free", x.traffic(0, 60), 172);
        Checks.due("told", x.vehicleOf(0, 1), 172);
        x.ask(0, 5, 0, 170);
        Checks.due("leaves at 172", x.stopOf(0, 0, 2), 182);
        x.end();
        Checks.due("the next day", x.traffic(0, 1), 1);
    }

    private static void promise12Left() {
        DoorstepRides x = Checks.town(8, 3);
        x.ask(0, 5, 4, 100);
        x.pass(95);
        Checks.due("on its way", x.traffic(0, 3), 105);
        Checks.due("begins", x.stopOf(0, 0, 2), 103);
        Checks.due("when it was free last", x.vehicleOf(0, 1), 0);
        x.pass(9);
        Checks.due("begun already", x.traffic(0, 17), 122);
        x.pass(17);
        Checks.due("not yet", x.requestOf(0, 0), PROMISED);
        x.pass(1);
        Checks.due("began", x.requestOf(0, 4), 120);
        Checks.due("ended", x.requestOf(0, 5), 122);
        Checks.due("20 minutes are not late", x.requestOf(0, 7), 0);
        Checks.due("right at 136", x.traffic(0, 12), 138);
        Checks.due("right", x.vehicleOf(0, 8), 1);
        Checks.due("not at 137", x.traffic(0, 1), 139);
        Checks.due("not right", x.vehicleOf(0, 8), 0);
        x.pass(17);
        Checks.due("long", x.requestOf(0, 8), 1);
        DoorstepRides y = Checks.town(8, 3);
        y.ask(0, 5, 4, 100);
        y.pass(95);
        y.traffic(0, 21);
        y.pass(28);
        Checks.due("21 minutes are late", y.requestOf(0, 7), 1);
        y.traffic(0, 12);
        y.pass(16);
        Checks.due("served", y.requestOf(0, 0), SERVED);
        Checks.due("not long", y.requestOf(0, 8), 0);
    }

    private static void promise12Wrong() {
        DoorstepRides x = Checks.town(8, 3);
        Checks.refused("-1", Checks.INDEX, () -> x.traffic(-1, 5));
        Checks.refused("1", Checks.INDEX, () -> x.traffic(1, 5));
        Checks.refused("both wrong", Checks.INDEX, () -> x.traffic(1, 0));
        Checks.refused("0 minutes", Checks.ARGUMENT, () -> x.traffic(0, 0));
        Checks.refused("61 minutes", Checks.ARGUMENT, () -> x.traffic(0, 61));
        Checks.due("nothing changed", x.vehicleOf(0, 1), 0);
        Checks.due("60 minutes", x.traffic(0, 60), 60);
    }

    /** Two vehicles at the place 0: a request at 100, and the first vehicle is free too late, or just in time. */
    private static void promise13ToAnother() {
        DoorstepRides x = Checks.town(8, 3);
        x.vehicle(0, 8, 3, 400);
        x.ask(0, 0, 5, 100);
        x.traffic(0, 60);
        x.traffic(0, 60);
        Checks.due("20 minutes behind", x.mend(0), 0);
        Checks.due("stays", x.requestOf(0, 3), 0);
        x.traffic(0, 1);
        Checks.due("21 minutes behind", x.mend(0), 1);
        Checks.due("another vehicle", x.requestOf(0, 3), 1);
        Checks.due("its minute stays", x.requestOf(0, 2), 100);
        Checks.due("no stops", x.vehicleOf(0, 2), 0);
        Checks.due("two stops", x.vehicleOf(1, 2), 2);
        Checks.due("nothing more", x.mend(0) + x.mend(1), 0);
        DoorstepRides y = Checks.town(8, 3);
        y.vehicle(0, 8, 3, 60);
        y.ask(2, 0, 5, 100);
        for (int i = 0; i < 3; i++) {
            y.traffic(0, 60);
        }
        Checks.due("the other lift does not bear it", y.mend(0), 0);
        Checks.due("comes back", y.vehicleOf(0, 2), 2);
    }

    /** One seat: what is second is late only because of what is first. */
    private static void promise13PicksInOrder() {
        DoorstepRides x = new DoorstepRides();
        x.vehicle(0, 1, 0, 400);
        x.vehicle(0, 1, 0, 400);
        x.rider(0, 70, 5, false);
        x.ask(0, 0, 5, 100);
        x.ask(0, 0, 5, 126);
        Checks.due("both in one", x.vehicleOf(0, 2), 4);
        x.traffic(0, 60);
        x.traffic(0, 60);
        x.traffic(0, 5);
        Checks.due("the second would begin", x.stopOf(0, 2, 2), 149);
        Checks.due("one is moved", x.mend(0), 1);
        Checks.due("the first", x.requestOf(0, 3), 1);
        Checks.due("not the second", x.requestOf(1, 3), 0);
        Checks.due("that begins", x.stopOf(0, 0, 2), 126);
    }

    /** Without the chair ahead the first rider would be aboard too long, waiting for the second. */
    private static void promise13DropTooLate() {
        DoorstepRides x = Checks.town(8, 3);
        x.ask(0, 0, 1, 100);
        x.ask(2, 5, 0, 93);
        x.ask(0, 0, 1, 125);
        int[] before = {1, 1, 0, 2, 2, 0};
        for (int i = 0; i < before.length; i++) {
            Checks.due("stop " + i, x.stopOf(0, i, 0), before[i]);
        }
        x.cancel(1);
        Checks.due("too long", x.vehicleOf(0, 8), 0);
        Checks.due("mended", x.mend(0), 1);
        Checks.due("right", x.vehicleOf(0, 8), 1);
        int[] after = {0, 0, 2, 2};
        for (int i = 0; i < after.length; i++) {
            Checks.due("stop " + i + " then", x.stopOf(0, i, 0), after[i]);
        }
        Checks.due("its minute stays", x.requestOf(0, 2), 100);
    }

    private static void promise13ComesBack() {
        DoorstepRides x = Checks.town(8, 3);
        x.ask(0, 0, 5, 100);
        x.ask(1, 0, 5, 100);
        x.ask(0, 1, 4, 104);
        int[] requests = new int[6];
        int[] drops = new int[6];
        for (int i = 0; i < 6; i++) {
            requests[i] = x.stopOf(0, i, 0);
            drops[i] = x.stopOf(0, i, 1);
        }
        for (int i = 0; i < 3; i++) {
            x.traffic(0, 60);
        }
        Checks.due("none can be put anywhere", x.mend(0), 0);
        for (int i = 0; i < 6; i++) {
            Checks.due("request " + i, x.stopOf(0, i, 0), requests[i]);
            Checks.due("drop " + i, x.stopOf(0, i, 1), drops[i]);
        }
        Checks.due("promised still", x.count(PROMISED), 3);
        Checks.due("their vehicle", x.requestOf(1, 3), 0);
    }

    private static void promise13NotWhatItLeftFor() {
        DoorstepRides x = Checks.town(8, 3);
        x.vehicle(0, 8, 3, 400);
        x.ask(0, 0, 5, 100);
        Checks.due("nothing yet", x.mend(0), 0);
        x.pass(100);
        x.traffic(0, 30);
        Checks.due("too late", x.vehicleOf(0, 8), 0);
        Checks.due("but left for", x.mend(0), 0);
        x.ask(0, 0, 1, 101);
        Checks.due("the other one", x.vehicleOf(1, 2), 2);
        DoorstepRides y = Checks.town(8, 3);
        y.vehicle(0, 8, 3, 400);
        y.ask(0, 0, 1, 10);
        y.ask(0, 1, 2, 20);
        Checks.due("nothing yet", y.mend(0), 0);
        y.pass(12);
        y.traffic(0, 60);
        Checks.due("aboard, and too late", y.requestOf(0, 0), ABOARD);
        Checks.due("the second alone", y.mend(0), 1);
        Checks.due("it", y.requestOf(1, 3), 1);
        Checks.due("not the first", y.requestOf(0, 3), 0);
    }

    private static void promise13Wrong() {
        DoorstepRides x = new DoorstepRides();
        Checks.refused("none", Checks.INDEX, () -> x.mend(0));
        x.vehicle(0, 1, 0, 400);
        Checks.refused("-1", Checks.INDEX, () -> x.mend(-1));
        Checks.refused("1", Checks.INDEX, () -> x.mend(1));
        Checks.due("nothing to mend", x.mend(0), 0);
    }
}
