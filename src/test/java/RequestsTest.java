/** Promises 7 to 9: requests. */
public final class RequestsTest {
    private static final int WALKS = DoorstepRides.WALKS, CHAIR = DoorstepRides.CHAIR;

    private RequestsTest() {
    }

    public static void main(String[] args) {
        Checks.runAll(RequestsTest.class);
    }

    private static void promise7Wrong() {
        DoorstepRides x = Checks.town(8, 3);
        Checks.refused("rider -1", Checks.INDEX, () -> x.ask(-1, 0, 1, 5));
        Checks.refused("rider 3", Checks.INDEX, () -> x.ask(3, 0, 1, 5));
        Checks.refused("rider 3, all else wrong too", Checks.INDEX, () -> x.ask(3, 36, 36, 601));
        Checks.refused("from -1", Checks.ARGUMENT, () -> x.ask(0, -1, 1, 5));
        Checks.refused("from 36", Checks.ARGUMENT, () -> x.ask(0, 36, 1, 5));
        Checks.refused("to -1", Checks.ARGUMENT, () -> x.ask(0, 1, -1, 5));
        Checks.refused("to 36", Checks.ARGUMENT, () -> x.ask(0, 1, 36, 5));
        Checks.refused("both the same", Checks.ARGUMENT, () -> x.ask(0, 1, 1, 5));
        Checks.refused("minute -1", Checks.ARGUMENT, () -> x.ask(0, 0, 1, -1));
        Checks.refused("minute 601", Checks.ARGUMENT, () -> x.ask(0, 0, 1, 601));
        Checks.due("a throw changes nothing", x.ask(0, 0, 1, 5), 0);
    }

    private static void promise7Full() {
        DoorstepRides x = Checks.town(8, 3);
        for (int i = 0; i < 60; i++) {
            Checks.due("number", x.ask(0, 0, 1, 300), i);
            if (i % 3 == 0) {
                x.end();
            }
        }
        Checks.refused("a 61st", Checks.STATE, () -> x.ask(0, 0, 1, 300));
        Checks.refused("a wrong 61st", Checks.ARGUMENT, () -> x.ask(0, 0, 0, 300));
        x.end();
        Checks.refused("a 61st on another day", Checks.STATE, () -> x.ask(0, 0, 1, 300));
    }

    /** One seat: the first from 100 to 114, and back at 124; the second begins at 124; the third at 80. */
    private static void promise7Tries() {
        DoorstepRides x = Checks.town(1, 0);
        Checks.due("m", x.requestOf(x.ask(0, 0, 5, 100), 2), 100);
        Checks.due("m and 10", x.requestOf(x.ask(0, 0, 5, 100), 2), 110);
        Checks.due("m less 20, for m less 10 and m and 20 are not possible", x.requestOf(x.ask(0, 0, 5, 100), 2), 80);
        Checks.dueRoute(x, 0, 2, 2, 0, 0, 1, 1);
        Checks.due("begins", x.stopOf(0, 4, 2), 128);
        int last = 0;
        for (int i = 0; i < 5; i++) {
            last = x.ask(0, 0, 5, 100);
        }
        Checks.due("no more within 60 minutes", x.requestOf(last, 1), DoorstepRides.NO_ROOM);
        Checks.due("no minute then", x.requestOf(last, 2), DoorstepRides.NONE);
    }

    private static void promise7TriesOfTheDay() {
        DoorstepRides x = Checks.town(1, 0);
        Checks.due("0 is not behind 0", x.requestOf(x.ask(0, 0, 1, 0), 2), 10);
        x.cancel(0);
        x.pass(70);
        Checks.due("70 is not behind 70", x.requestOf(x.ask(0, 0, 1, 70), 2), 80);
        x.cancel(1);
        Checks.due("71 is", x.requestOf(x.ask(0, 0, 1, 71), 2), 71);
        x.cancel(2);
        x.pass(120);
        Checks.due("130 and 60 is now", x.requestOf(x.ask(1, 0, 1, 130), 1), DoorstepRides.NO_ROOM);
        Checks.due("131 and 60 is not", x.requestOf(x.ask(1, 0, 1, 131), 2), 191);
    }

    /** The place 35 is 20 minutes from 0. */
    private static void promise7PickInTime() {
        DoorstepRides x = Checks.town(1, 0);
        Checks.due("20 minutes behind", x.requestOf(x.ask(0, 35, 34, 1), 2), 1);
        Checks.due("leaves in the next minute", x.stopOf(0, 0, 2), 21);
        DoorstepRides y = Checks.town(1, 0);
        y.traffic(0, 2);
        Checks.due("21 minutes behind", y.requestOf(y.ask(0, 35, 34, 1), 2), 11);
        DoorstepRides z = Checks.town(1, 0);
        z.traffic(0, 1);
        Checks.due("free at 1, the next minute", z.requestOf(z.ask(0, 35, 34, 1), 2), 1);
    }

    /** WALKS from 0 to 1 and back takes 8 minutes, a CHAIR 16. */
    private static void promise7BackInTime() {
        DoorstepRides x = Checks.town(2, 1);
        Checks.due("walks, asked for 592", x.requestOf(x.ask(0, 0, 1, 592), 2), 592);
        Checks.due("back at 600", x.vehicleOf(0, 7), 600);
        x.cancel(0);
        Checks.due("walks, asked for 593", x.requestOf(x.ask(0, 0, 1, 593), 2), 583);
        x.cancel(1);
        Checks.due("chair, asked for 600", x.requestOf(x.ask(2, 0, 1, 600), 2), 580);
        x.cancel(2);
        Checks.due("chair, asked for 584", x.requestOf(x.ask(2, 0, 1, 584), 2), 584);
        x.cancel(3);
        Checks.due("52 minutes: 60 less", x.requestOf(x.ask(2, 0, 35, 600), 2), 540);
    }

    private static void promise7LeastGrowth() {
        DoorstepRides x = Checks.town(4, 0);
        x.vehicle(35, 4, 0, 400);
        x.vehicle(35, 4, 0, 400);
        Checks.due("the nearer vehicle", x.requestOf(x.ask(0, 34, 35, 100), 3), 1);
        Checks.due("its drive", x.drive(1), 4);
        Checks.due("of as good ones the lowest", x.requestOf(x.ask(0, 33, 35, 300), 3), 1);
        Checks.due("on the way of the first vehicle", x.requestOf(x.ask(0, 1, 0, 100), 3), 0);
        Checks.due("not the lowest, if its drive grows more", x.requestOf(x.ask(0, 29, 35, 500), 3), 1);
        DoorstepRides y = Checks.town(1, 0);
        y.vehicle(0, 1, 0, 400);
        y.ask(0, 0, 5, 100);
        Checks.due("the first has no room then", y.requestOf(y.ask(0, 0, 5, 100), 3), 1);
    }

    private static void promise7FurthestAhead() {
        DoorstepRides x = Checks.town(8, 0);
        x.ask(0, 0, 5, 100);
        x.ask(0, 0, 5, 100);
        Checks.dueRoute(x, 0, 1, 0, 1, 0);
        Checks.due("no more drive", x.drive(0), 20);
        Checks.due("second pick", x.stopOf(0, 1, 2), 102);
        Checks.due("first drop", x.stopOf(0, 2, 2), 114);
        DoorstepRides y = Checks.town(8, 0);
        y.ask(0, 0, 2, 100);
        y.ask(0, 1, 2, 100);
        Checks.dueRoute(y, 0, 0, 1, 1, 0);
        DoorstepRides z = Checks.town(8, 0);
        z.ask(0, 0, 2, 100);
        z.ask(0, 0, 1, 100);
        Checks.dueRoute(z, 0, 1, 0, 1, 0);
    }

    private static void promise7ChairsInTurn() {
        DoorstepRides x = Checks.town(8, 3);
        x.ask(2, 0, 5, 100);
        x.ask(2, 0, 5, 100);
        Checks.dueRoute(x, 0, 1, 0, 0, 1);
        DoorstepRides y = Checks.town(8, 3);
        y.ask(2, 0, 5, 100);
        y.ask(0, 0, 5, 100);
        Checks.dueRoute(y, 0, 1, 0, 1, 0);
        DoorstepRides z = Checks.town(8, 3);
        z.ask(2, 0, 5, 100);
        z.pass(106);
        z.ask(2, 0, 5, 110);
        Checks.due("left for the drop already", z.vehicleOf(0, 5), 1);
        Checks.dueRoute(z, 0, 0, 1, 1);
    }

    private static void promise7Seats() {
        DoorstepRides x = new DoorstepRides();
        x.vehicle(0, 2, 3, 400);
        x.rider(CHAIR, 70, 5, true);
        x.rider(CHAIR, 70, 5, false);
        x.rider(WALKS, 70, 5, true);
        x.rider(WALKS, 70, 5, false);
        Checks.due("a chair with a helper needs 3", x.requestOf(x.ask(0, 0, 5, 100), 1), DoorstepRides.NO_ROOM);
        Checks.due("a chair needs 2", x.requestOf(x.ask(1, 0, 5, 100), 2), 100);
        Checks.due("no seat beside it", x.requestOf(x.ask(3, 0, 5, 103), 2) != 103, true);
        x.end();
        Checks.due("a helper needs a seat", x.requestOf(x.ask(2, 0, 5, 100), 2), 100);
        Checks.due("no seat beside them", x.requestOf(x.ask(3, 0, 5, 103), 2) != 103, true);
        x.end();
        x.ask(3, 0, 5, 100);
        Checks.due("two seats for two", x.requestOf(x.ask(3, 0, 5, 103), 2), 103);
        x.vehicle(0, 3, 1, 400);
        Checks.due("3 seats", x.requestOf(x.ask(0, 0, 5, 100), 3), 1);
    }

    private static void promise7Ties() {
        DoorstepRides x = Checks.town(8, 0);
        Checks.due("no tie", x.requestOf(x.ask(2, 0, 5, 100), 1), DoorstepRides.NO_ROOM);
        DoorstepRides y = Checks.town(8, 1);
        y.ask(2, 0, 5, 100);
        Checks.due("one tie for two", y.requestOf(y.ask(2, 0, 5, 100), 2) != 100, true);
        DoorstepRides z = Checks.town(8, 2);
        z.ask(2, 0, 5, 100);
        Checks.due("two ties for two", z.requestOf(z.ask(2, 0, 5, 100), 2), 100);
        Checks.due("two ties for three", z.requestOf(z.ask(2, 0, 5, 100), 2) != 100, true);
    }

    private static void promise7SixteenStops() {
        DoorstepRides x = Checks.town(8, 0);
        for (int i = 0; i < 8; i++) {
            Checks.due("promised", x.requestOf(x.ask(0, 0, 1, 40 + 60 * i), 2), 40 + 60 * i);
        }
        Checks.due("16 stops", x.vehicleOf(0, 2), 16);
        Checks.due("no more", x.requestOf(x.ask(0, 0, 1, 570), 1), DoorstepRides.NO_ROOM);
        x.vehicle(35, 1, 0, 400);
        Checks.due("but another vehicle", x.requestOf(x.ask(0, 0, 1, 560), 3), 1);
        x.cancel(7);
        Checks.due("14 stops again", x.requestOf(x.ask(0, 0, 1, 570), 3), 0);
    }

    private static void promise7SeventeenStops() {
        DoorstepRides x = Checks.town(8, 0);
        for (int i = 0; i < 8; i++) {
            x.ask(0, 0, 1, 40 + 60 * i);
        }
        x.pass(42);
        Checks.due("one is aboard: 15 stops", x.vehicleOf(0, 2), 15);
        Checks.due("no more", x.requestOf(x.ask(0, 0, 1, 520), 1), DoorstepRides.NO_ROOM);
        x.pass(4);
        Checks.due("served: 14 stops", x.vehicleOf(0, 2), 14);
        Checks.due("one more", x.requestOf(x.ask(0, 0, 1, 520), 0), DoorstepRides.PROMISED);
    }

    /** It leaves for the place 5 at 10, to be there at 20. */
    private static void promise7BehindTheLeftStop() {
        DoorstepRides x = Checks.town(8, 0);
        x.ask(0, 5, 11, 20);
        x.pass(9);
        Checks.due("ahead of it", x.requestOf(x.ask(0, 0, 1, 12), 2), 12);
        Checks.dueRoute(x, 0, 1, 1, 0, 0);
        DoorstepRides y = Checks.town(8, 0);
        y.ask(0, 5, 11, 20);
        y.pass(10);
        Checks.due("behind it", y.requestOf(y.ask(0, 0, 1, 12), 2), 22);
        Checks.dueRoute(y, 0, 0, 0, 1, 1);
    }

    private static void promise7Reasons() {
        DoorstepRides x = Checks.town(1, 0);
        x.busStop(0, true);
        for (int i = 0; i < 3; i++) {
            x.cancel(x.ask(0, 14, 21, 50));
        }
        Checks.due("suspended", x.riderOf(0, 2), 1);
        int notOwed = x.ask(0, 1, 2, 50);
        Checks.due("not owed first", x.requestOf(notOwed, 1), DoorstepRides.NOT_OWED);
        int suspended = x.ask(0, 14, 21, 50);
        Checks.due("then suspended", x.requestOf(suspended, 1), DoorstepRides.SUSPENDED);
        int noRoom = x.ask(2, 14, 21, 50);
        Checks.due("then no room", x.requestOf(noRoom, 1), DoorstepRides.NO_ROOM);
        for (int i = notOwed; i <= noRoom; i++) {
            Checks.due("denied", x.requestOf(i, 0), DoorstepRides.DENIED);
            Checks.due("no minute", x.requestOf(i, 2), DoorstepRides.NONE);
            Checks.due("no vehicle", x.requestOf(i, 3), DoorstepRides.NONE);
        }
        x.busStop(0, false);
        Checks.due("owed, but suspended", x.requestOf(x.ask(0, 1, 2, 50), 1), DoorstepRides.SUSPENDED);
        x.busStop(14, true);
        Checks.due("for no vehicle it is owed or not", x.requestOf(x.ask(2, 14, 8, 50), 1), DoorstepRides.NOT_OWED);
    }

    private static void promise7Suspended() {
        DoorstepRides x = Checks.town(1, 0);
        for (int i = 0; i < 12; i++) {
            Checks.due("in good time", x.cancel(x.ask(0, 0, 1, 60)), false);
        }
        for (int i = 0; i < 3; i++) {
            Checks.due("not yet", x.riderOf(0, 2), 0);
            Checks.due("too late", x.cancel(x.ask(0, 0, 1, 59)), true);
        }
        Checks.due("3 of 15", x.riderOf(0, 2), 1);
        Checks.due("denied", x.requestOf(x.ask(0, 0, 1, 59), 1), DoorstepRides.SUSPENDED);
        Checks.due("which does not count", x.riderOf(0, 0), 15);
        Checks.due("another rider", x.requestOf(x.ask(1, 0, 1, 59), 0), DoorstepRides.PROMISED);
        x.end();
        Checks.due("with the request of another rider still", x.riderOf(0, 2), 1);
    }

    private static void promise7NotQuiteSuspended() {
        DoorstepRides x = Checks.town(1, 0);
        for (int i = 0; i < 13; i++) {
            x.cancel(x.ask(0, 0, 1, 60));
        }
        for (int i = 0; i < 3; i++) {
            x.cancel(x.ask(0, 0, 1, 59));
        }
        Checks.due("3 of 16", x.riderOf(0, 2), 0);
        Checks.due("promised", x.requestOf(x.ask(0, 0, 1, 59), 0), DoorstepRides.PROMISED);
        x.cancel(16);
        Checks.due("4 of 17", x.riderOf(0, 2), 1);
        DoorstepRides y = Checks.town(1, 0);
        y.cancel(y.ask(0, 0, 1, 59));
        y.cancel(y.ask(0, 0, 1, 59));
        Checks.due("2 of 2 are too few", y.riderOf(0, 2), 0);
    }

    private static void promise7ThirtyDays() {
        DoorstepRides x = Checks.town(1, 0);
        for (int i = 0; i < 3; i++) {
            x.cancel(x.ask(0, 0, 1, 59));
        }
        for (int i = 0; i < 29; i++) {
            x.end();
        }
        Checks.due("the day 29", x.requestOf(x.ask(0, 0, 1, 59), 1), DoorstepRides.SUSPENDED);
        x.end();
        Checks.due("the day 30", x.requestOf(x.ask(0, 0, 1, 59), 0), DoorstepRides.PROMISED);
    }

    private static void promise8() {
        DoorstepRides x = Checks.town(8, 0);
        x.ask(0, 0, 1, 100);
        x.ask(0, 0, 1, 99);
        x.pass(40);
        Checks.due("60 minutes ahead", x.cancel(0), false);
        Checks.due("59 minutes ahead", x.cancel(1), true);
        Checks.due("cancelled", x.requestOf(0, 0), DoorstepRides.CANCELLED);
        Checks.due("no no-show", x.requestOf(0, 10), 0);
        Checks.due("a no-show", x.requestOf(1, 10), 1);
        Checks.due("its minute stays", x.requestOf(1, 2), 99);
        Checks.due("its vehicle stays", x.requestOf(1, 3), 0);
        Checks.due("no stops", x.vehicleOf(0, 2), 0);
        Checks.refused("once only", Checks.STATE, () -> x.cancel(0));
        x.ask(0, 0, 1, 50);
        x.traffic(0, 60);
        x.pass(20);
        Checks.due("behind its minute, not left for", x.cancel(2), true);
    }

    private static void promise8Wrong() {
        DoorstepRides x = Checks.town(8, 0);
        Checks.refused("none yet", Checks.INDEX, () -> x.cancel(0));
        x.ask(0, 5, 0, 100);
        x.ask(2, 5, 0, 100);
        Checks.refused("-1", Checks.INDEX, () -> x.cancel(-1));
        Checks.refused("2", Checks.INDEX, () -> x.cancel(2));
        Checks.refused("denied", Checks.STATE, () -> x.cancel(1));
        x.pass(90);
        Checks.due("left", x.vehicleOf(0, 5), 1);
        Checks.refused("left to pick it up", Checks.STATE, () -> x.cancel(0));
        Checks.due("nothing changed", x.requestOf(0, 0), DoorstepRides.PROMISED);
        x.pass(12);
        Checks.due("aboard", x.requestOf(0, 0), DoorstepRides.ABOARD);
        Checks.refused("aboard", Checks.STATE, () -> x.cancel(0));
        x.pass(12);
        Checks.due("served", x.requestOf(0, 0), DoorstepRides.SERVED);
        Checks.refused("served", Checks.STATE, () -> x.cancel(0));
    }

    private static void promise8LeavesOthers() {
        DoorstepRides x = Checks.town(8, 0);
        x.ask(0, 0, 5, 100);
        x.ask(0, 0, 5, 100);
        x.ask(0, 0, 1, 200);
        x.cancel(1);
        Checks.dueRoute(x, 0, 0, 0, 2, 2);
        x.pass(100);
        Checks.due("left for another", x.vehicleOf(0, 5), 1);
        Checks.due("100 minutes ahead", x.cancel(2), false);
        Checks.dueRoute(x, 0, 0, 0);
        DoorstepRides y = Checks.town(8, 0);
        y.ask(0, 0, 5, 100);
        y.ask(0, 0, 5, 100);
        y.pass(100);
        Checks.dueRoute(y, 0, 1, 0, 1, 0);
        Checks.refused("left for the first stop", Checks.STATE, () -> y.cancel(1));
        Checks.due("not for the second", y.cancel(0), true);
        Checks.dueRoute(y, 0, 1, 1);
    }

    private static void promise9() {
        DoorstepRides x = Checks.town(8, 0);
        x.ask(0, 5, 0, 100);
        x.ask(0, 5, 0, 100);
        x.absent(0);
        Checks.due("promised still", x.requestOf(0, 0), DoorstepRides.PROMISED);
        Checks.due("its stops stay", x.vehicleOf(0, 2), 4);
        Checks.due("no no-show yet", x.requestOf(0, 10), 0);
        x.pass(90);
        x.absent(0);
        x.pass(14);
        Checks.due("missed", x.requestOf(0, 0), DoorstepRides.MISSED);
        Checks.due("a no-show", x.requestOf(0, 10), 1);
        Checks.due("the other is aboard", x.requestOf(1, 0), DoorstepRides.ABOARD);
        Checks.due("its pick began", x.requestOf(0, 4), 102);
        Checks.due("its pick ended", x.requestOf(0, 5), 104);
        Checks.due("its drop did not", x.requestOf(0, 6), DoorstepRides.NONE);
        Checks.dueRoute(x, 0, 1);
        Checks.due("one seat", x.vehicleOf(0, 3), 1);
        DoorstepRides y = Checks.town(8, 0);
        y.ask(0, 5, 0, 100);
        y.pass(101);
        y.absent(0);
        y.pass(1);
        Checks.due("told while it is there", y.requestOf(0, 0), DoorstepRides.MISSED);
        DoorstepRides z = Checks.town(8, 0);
        z.ask(0, 5, 0, 100);
        z.absent(0);
        Checks.due("cancelled in good time", z.cancel(0), false);
        Checks.due("no no-show", z.count(9), 0);
    }

    private static void promise9Wrong() {
        DoorstepRides x = Checks.town(8, 0);
        Checks.refused("none yet", Checks.INDEX, () -> x.absent(0));
        x.ask(0, 0, 5, 100);
        x.ask(2, 5, 0, 100);
        x.ask(0, 0, 5, 300);
        x.cancel(2);
        Checks.refused("-1", Checks.INDEX, () -> x.absent(-1));
        Checks.refused("3", Checks.INDEX, () -> x.absent(3));
        Checks.refused("denied", Checks.STATE, () -> x.absent(1));
        Checks.refused("cancelled", Checks.STATE, () -> x.absent(2));
        x.pass(102);
        Checks.refused("aboard", Checks.STATE, () -> x.absent(0));
        x.pass(12);
        Checks.refused("served", Checks.STATE, () -> x.absent(0));
        Checks.due("served", x.requestOf(0, 0), DoorstepRides.SERVED);
    }
}
