/** The boundary cases of "Vehicles" and of the promises 5 and 6. */
public final class EdgesVehiclesTest {
    private static final int WALKS = DoorstepRides.WALKS, WALKER = DoorstepRides.WALKER, CHAIR = DoorstepRides.CHAIR;
    private static final int PROMISED = DoorstepRides.PROMISED, NO_ROOM = DoorstepRides.NO_ROOM;

    private EdgesVehiclesTest() {
    }

    public static void main(String[] args) {
        Checks.runAll(EdgesVehiclesTest.class);
    }

    private static DoorstepRides townOf(int seats, int ties, int lift, int kind, int weight, boolean hasHelper) {
        DoorstepRides x = new DoorstepRides();
        x.vehicle(0, seats, ties, lift);
        x.rider(kind, weight, 5, hasHelper);
        return x;
    }

    private static void fourVehicles() {
        DoorstepRides x = new DoorstepRides();
        for (int i = 0; i < 4; i++) {
            Checks.due("its number", x.vehicle(i, 4, 1, 100), i);
        }
        Checks.due("the last one", x.vehicleOf(3, 0), 3);
        Checks.refused("a fifth", Checks.STATE, () -> x.vehicle(0, 4, 1, 100));
        Checks.refused("is not there", Checks.INDEX, () -> x.vehicleOf(4, 0));
        x.end();
        Checks.refused("a fifth on another day", Checks.STATE, () -> x.vehicle(0, 4, 1, 100));
    }

    private static void vehicleFirstAndLastOfEachRange() {
        DoorstepRides x = new DoorstepRides();
        Checks.due("all least", x.vehicle(0, 1, 0, 50), 0);
        Checks.due("all most", x.vehicle(35, 8, 3, 400), 1);
        Checks.due("base 0", x.vehicleOf(0, 0), 0);
        Checks.due("base 35", x.vehicleOf(1, 0), 35);
        Checks.due("seats 8 alone", x.vehicle(0, 8, 0, 50), 2);
        Checks.due("ties 3 alone", x.vehicle(0, 1, 3, 50), 3);
        DoorstepRides y = new DoorstepRides();
        Checks.due("lift 400 alone", y.vehicle(0, 1, 0, 400), 0);
        Checks.due("base 35 alone", y.vehicle(35, 1, 0, 50), 1);
    }

    private static void liftWorksAtFirst() {
        DoorstepRides x = new DoorstepRides();
        x.vehicle(0, 8, 3, 400);
        Checks.due("told", x.vehicleOf(0, 6), 1);
        Checks.due("it did", x.lift(0, true), true);
    }

    private static void liftOfTheFirstAndTheLastVehicle() {
        DoorstepRides x = new DoorstepRides();
        for (int i = 0; i < 4; i++) {
            x.vehicle(0, 8, 3, 400);
        }
        Checks.due("the first", x.lift(0, false), true);
        Checks.due("the last", x.lift(3, false), true);
        int[] works = {0, 1, 1, 0};
        for (int i = 0; i < 4; i++) {
            Checks.due("vehicle " + i, x.vehicleOf(i, 6), works[i]);
        }
    }

    // ---- seats

    /** It needs so many seats: with them there is room, with one less there is none. */
    private static void dueSeats(int kind, boolean hasHelper, int needed) {
        DoorstepRides x = townOf(needed, 1, 400, kind, 70, hasHelper);
        Checks.due(needed + " seats", x.requestOf(x.ask(0, 0, 1, 50), 0), PROMISED);
        x.pass(50);
        Checks.due("not aboard", x.vehicleOf(0, 3), 0);
        x.pass(kind == CHAIR ? 6 : kind == WALKER ? 4 : 2);
        Checks.due("seats taken", x.vehicleOf(0, 3), needed);
        Checks.due("seats taken anew", x.seatsAnew(0), needed);
        x.pass(60);
        Checks.due("seats taken no more", x.vehicleOf(0, 3), 0);
        Checks.due("nor anew", x.seatsAnew(0), 0);
        if (needed > 1) {
            DoorstepRides y = townOf(needed - 1, 1, 400, kind, 70, hasHelper);
            Checks.due("one seat less", y.requestOf(y.ask(0, 0, 1, 50), 1), NO_ROOM);
        }
    }

    private static void walksTakesASeat() {
        dueSeats(WALKS, false, 1);
    }

    private static void walkerTakesASeat() {
        dueSeats(WALKER, false, 1);
    }

    private static void chairTakesTwoSeats() {
        dueSeats(CHAIR, false, 2);
    }

    private static void helperTakesASeatMore() {
        dueSeats(WALKS, true, 2);
        dueSeats(WALKER, true, 2);
        dueSeats(CHAIR, true, 3);
    }

    /** As many at one minute as there are seats, and no more. */
    private static void seatsFullAndOneMore() {
        for (int seats = 1; seats <= 5; seats++) {
            DoorstepRides x = townOf(seats, 0, 400, WALKS, 70, false);
            for (int i = 0; i < seats; i++) {
                Checks.due("one of " + seats, x.requestOf(x.ask(0, 0, 35, 100), 2), 100);
            }
            Checks.due("one more", x.requestOf(x.ask(0, 0, 35, 100), 2) != 100, true);
        }
    }

    // ---- ties

    private static void chairTakesATie() {
        DoorstepRides x = townOf(8, 0, 400, CHAIR, 70, false);
        Checks.due("no tie", x.requestOf(x.ask(0, 0, 1, 50), 1), NO_ROOM);
        DoorstepRides y = townOf(8, 1, 400, CHAIR, 70, true);
        Checks.due("a tie, and none for the helper", y.requestOf(y.ask(0, 0, 1, 50), 0), PROMISED);
        DoorstepRides z = townOf(8, 0, 400, WALKER, 70, true);
        Checks.due("a walker needs none", z.requestOf(z.ask(0, 0, 1, 50), 0), PROMISED);
    }

    private static void tiesFullAndOneMore() {
        for (int ties = 1; ties <= 2; ties++) {
            DoorstepRides x = townOf(8, ties, 400, CHAIR, 70, false);
            for (int i = 0; i < ties; i++) {
                Checks.due("one of " + ties, x.requestOf(x.ask(0, 0, 35, 100), 2), 100);
            }
            Checks.due("one more", x.requestOf(x.ask(0, 0, 35, 100), 2) != 100, true);
        }
        DoorstepRides x = townOf(8, 3, 400, CHAIR, 70, false);
        for (int i = 0; i < 3; i++) {
            Checks.due("three with three ties", x.requestOf(x.ask(0, 0, 35, 100), 2), 100);
        }
        x.pass(118);
        Checks.due("all three aboard", x.vehicleOf(0, 4), 3);
        Checks.due("on six seats", x.vehicleOf(0, 3), 6);
    }

    /** Seats enough for two chairs, and one tie: it is the second tie that is missing. */
    private static void tiesNotSeats() {
        DoorstepRides x = townOf(8, 1, 400, CHAIR, 70, false);
        x.rider(WALKS, 70, 5, true);
        x.ask(0, 0, 35, 100);
        Checks.due("no second chair", x.requestOf(x.ask(0, 0, 35, 100), 2) != 100, true);
        Checks.due("but two who walk", x.requestOf(x.ask(1, 0, 35, 100), 2), 100);
    }

    // ---- the lift

    private static void liftBearsItsWeight() {
        int[] bears = {50, 100, 299, 300, 400};
        for (int lift : bears) {
            if (lift <= 300) {
                DoorstepRides x = townOf(8, 3, lift, CHAIR, lift, true);
                Checks.due(lift + " on " + lift, x.requestOf(x.ask(0, 0, 1, 50), 0), PROMISED);
            }
            if (lift + 1 <= 300) {
                DoorstepRides x = townOf(8, 3, lift, CHAIR, lift + 1, false);
                Checks.due(lift + 1 + " on " + lift, x.requestOf(x.ask(0, 0, 1, 50), 1), NO_ROOM);
                DoorstepRides y = townOf(8, 3, lift, WALKER, lift + 1, true);
                Checks.due("a walker is not lifted", y.requestOf(y.ask(0, 0, 1, 50), 0), PROMISED);
            }
        }
        DoorstepRides x = townOf(8, 3, 400, CHAIR, 300, false);
        Checks.due("300 on 400", x.requestOf(x.ask(0, 0, 1, 50), 0), PROMISED);
        DoorstepRides y = townOf(8, 3, 50, CHAIR, 30, false);
        Checks.due("30 on 50", y.requestOf(y.ask(0, 0, 1, 50), 0), PROMISED);
    }

    private static void liftThatDoesNotWork() {
        DoorstepRides x = townOf(8, 3, 400, CHAIR, 70, false);
        x.rider(WALKER, 300, 5, true);
        x.lift(0, false);
        Checks.due("no chair", x.requestOf(x.ask(0, 0, 1, 50), 1), NO_ROOM);
        Checks.due("a walker", x.requestOf(x.ask(1, 0, 1, 50), 0), PROMISED);
        x.end();
        Checks.due("no chair the next day", x.requestOf(x.ask(0, 0, 1, 50), 1), NO_ROOM);
        Checks.due("it did not", x.lift(0, true), false);
        Checks.due("a chair", x.requestOf(x.ask(0, 0, 1, 50), 0), PROMISED);
    }

    // ---- one behind the other

    /** The first chair aboard leaves last, or the second one does not come aboard ahead of that. */
    private static void chairsLeaveInTurn() {
        DoorstepRides x = townOf(8, 3, 400, CHAIR, 70, false);
        x.ask(0, 0, 5, 100);
        x.ask(0, 1, 5, 110);
        Checks.dueRoute(x, 0, 0, 1, 1, 0);
        Checks.due("the second one leaves first", x.stopOf(0, 2, 1), 1);
        DoorstepRides y = townOf(8, 3, 400, CHAIR, 70, false);
        y.ask(0, 0, 4, 100);
        y.ask(0, 1, 5, 110);
        Checks.dueRoute(y, 0, 0, 1, 1, 0);
        Checks.due("past the place 4 and back to it", y.stopOf(0, 3, 2), 132);
        DoorstepRides z = townOf(8, 3, 400, CHAIR, 70, false);
        z.ask(0, 0, 4, 100);
        z.ask(0, 1, 5, 113);
        Checks.dueRoute(z, 0, 0, 0, 1, 1);
    }

    private static void whoWalksLeavesAheadOfAChair() {
        DoorstepRides x = townOf(8, 3, 400, CHAIR, 70, false);
        x.rider(WALKS, 70, 5, false);
        x.ask(1, 0, 4, 100);
        x.ask(0, 1, 5, 111);
        Checks.dueRoute(x, 0, 0, 1, 0, 1);
        DoorstepRides y = townOf(8, 3, 400, CHAIR, 70, false);
        y.rider(WALKER, 70, 5, false);
        y.ask(0, 0, 4, 100);
        y.ask(1, 1, 5, 115);
        Checks.dueRoute(y, 0, 0, 1, 0, 1);
    }

    /** One chair is aboard, and its drop has been left for: another one comes aboard behind that. */
    private static void chairsLeaveInTurnFromAboard() {
        DoorstepRides x = townOf(8, 3, 400, CHAIR, 70, false);
        x.ask(0, 0, 5, 100);
        x.pass(106);
        Checks.due("aboard", x.vehicleOf(0, 4), 1);
        Checks.due("left for the drop", x.vehicleOf(0, 5), 1);
        x.ask(0, 4, 5, 120);
        Checks.dueRoute(x, 0, 0, 1, 1);
    }
}
