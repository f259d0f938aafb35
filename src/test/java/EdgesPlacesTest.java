/** The boundary cases of "What it is", of "Places, riders" and of the promises 1 to 4, 14 to 16. */
public final class EdgesPlacesTest {
    private static final int WALKS = DoorstepRides.WALKS, WALKER = DoorstepRides.WALKER, CHAIR = DoorstepRides.CHAIR;
    private static final int NONE = DoorstepRides.NONE;

    private EdgesPlacesTest() {
    }

    public static void main(String[] args) {
        Checks.runAll(EdgesPlacesTest.class);
    }

    /** The steps between two places by going from place to place, with no reckoning of rows and columns. */
    private static int[] stepsFrom(int place) {
        int[] steps = new int[36];
        java.util.Arrays.fill(steps, NONE);
        steps[place] = 0;
        for (int far = 0; far < 10; far++) {
            for (int p = 0; p < 36; p++) {
                if (steps[p] == far) {
                    reach(steps, p - 6, p >= 6, far + 1);
                    reach(steps, p + 6, p < 30, far + 1);
                    reach(steps, p - 1, p % 6 != 0, far + 1);
                    reach(steps, p + 1, p % 6 != 5, far + 1);
                }
            }
        }
        return steps;
    }

    private static void reach(int[] steps, int place, boolean isThere, int far) {
        if (isThere && steps[place] == NONE) {
            steps[place] = far;
        }
    }

    /** A place that is so many steps from the place 0, at most 10. */
    private static int placeAt(int steps) {
        return steps <= 5 ? steps : 6 * (steps - 5) + 5;
    }

    // ---- what it is

    /** Five calls tell the town and ask for a ride; then come others up to the 512th, which is answered still. */
    private static void fiveHundredAndTwelveCalls() {
        DoorstepRides x = Checks.town(8, 3);
        int calls = 4;
        x.ask(0, 0, 1, 10);
        calls++;
        while (calls < 511) {
            if (calls % 64 == 0) {
                x.end();
            } else {
                x.winter(calls % 2 == 0);
            }
            calls++;
        }
        Checks.due("the 512th call", x.requestOf(0, 0), DoorstepRides.SERVED);
    }

    private static void newObject() {
        DoorstepRides x = new DoorstepRides();
        Checks.due("no rider", Checks.thrownBy(() -> x.riderOf(0, 0)), Checks.INDEX);
        Checks.due("no vehicle", Checks.thrownBy(() -> x.vehicleOf(0, 0)), Checks.INDEX);
        Checks.due("no request", Checks.thrownBy(() -> x.requestOf(0, 0)), Checks.INDEX);
        Checks.due("the day", x.day(), 0);
        Checks.due("the minute", x.now(), 0);
        Checks.due("summer", x.winter(true), false);
        Checks.due("no patterns", x.patterns(), 0);
        Checks.due("no money", x.money(), 0);
        for (int what = 0; what <= 9; what++) {
            Checks.due("count " + what, x.count(what), 0);
        }
    }

    /** Days and minutes pass without a rider and a vehicle too. */
    private static void emptyDays() {
        DoorstepRides x = new DoorstepRides();
        Checks.due("a minute", x.pass(1), 1);
        Checks.due("the day", x.end(), 0);
        Checks.due("the next one", x.day(), 1);
        Checks.due("its minute", x.now(), 0);
        Checks.due("no patterns", x.patterns(), 0);
        Checks.due("no money", x.money(), 0);
    }

    /** Without a vehicle there is no room; without a rider none can ask. */
    private static void askWithoutVehicles() {
        DoorstepRides x = new DoorstepRides();
        Checks.refused("no rider", Checks.INDEX, () -> x.ask(0, 0, 1, 50));
        x.rider(WALKS, 70, 5, false);
        Checks.due("no vehicle", x.requestOf(x.ask(0, 0, 1, 50), 1), DoorstepRides.NO_ROOM);
    }

    // ---- places

    /** A vehicle at the one place, asked to ride from there to the other, drives there and back. */
    private static void stepsBetweenAllPlaces() {
        for (int from = 0; from < 36; from++) {
            int[] steps = stepsFrom(from);
            for (int to = 0; to < 36; to++) {
                if (from != to) {
                    DoorstepRides x = new DoorstepRides();
                    x.vehicle(from, 1, 0, 50);
                    x.rider(WALKS, 70, 0, false);
                    x.ask(0, from, to, 300);
                    Checks.due("drive from " + from + " to " + to + " and back", x.drive(0), 2 * 2 * steps[to]);
                }
            }
        }
    }

    /** The last place of a row and the first of the next one lie behind one another, but six steps apart. */
    private static void rowsDoNotWrapAround() {
        int[][] pairs = {{5, 6, 6}, {29, 30, 6}, {0, 5, 5}, {0, 30, 5}, {0, 35, 10}, {5, 30, 10}, {11, 12, 6}};
        for (int[] pair : pairs) {
            DoorstepRides x = new DoorstepRides();
            x.vehicle(pair[0], 1, 0, 50);
            x.rider(WALKS, 70, 0, false);
            x.ask(0, pair[0], pair[1], 300);
            Checks.due("drive from " + pair[0] + " to " + pair[1], x.drive(0), 2 * 2 * pair[2]);
        }
    }

    private static void aStepTakesTwoMinutes() {
        DoorstepRides x = Checks.town(8, 3);
        x.ask(0, 0, 1, 100);
        Checks.due("one step behind the end of the pick", x.stopOf(0, 1, 2) - x.stopOf(0, 0, 3), 2);
        x.cancel(0);
        x.ask(0, 0, 35, 100);
        Checks.due("ten steps behind the end of the pick", x.stopOf(0, 1, 2) - x.stopOf(0, 0, 3), 20);
    }

    // ---- bus stops

    private static void noBusStopsAtFirst() {
        DoorstepRides x = new DoorstepRides();
        x.rider(WALKS, 70, 10, false);
        for (int place = 0; place < 36; place++) {
            Checks.due("owed at " + place, x.owes(0, place, place), true);
            Checks.due("none at " + place, x.busStop(place, false), 0);
        }
    }

    private static void busStopsFromNoneToAllAndBack() {
        DoorstepRides x = new DoorstepRides();
        x.rider(WALKS, 70, 0, false);
        for (int place = 0; place < 36; place++) {
            Checks.due("one more", x.busStop(place, true), place + 1);
            Checks.due("not one more", x.busStop(place, true), place + 1);
        }
        for (int place = 0; place < 36; place++) {
            Checks.due("all places have one", x.owes(0, place, 35 - place), false);
        }
        for (int place = 0; place < 36; place++) {
            Checks.due("one less", x.busStop(place, false), 35 - place);
            Checks.due("not one less", x.busStop(place, false), 35 - place);
            Checks.due("no bus there", x.owes(0, place, place), true);
        }
    }

    private static void busStopFirstAndLastPlace() {
        DoorstepRides x = new DoorstepRides();
        Checks.due("0", x.busStop(0, true), 1);
        Checks.due("35", x.busStop(35, true), 2);
        Checks.due("0 away", x.busStop(0, false), 1);
        Checks.due("35 away", x.busStop(35, false), 0);
    }

    /** Both ends by the nearest stop: of several the nearest one, also for each end another one. */
    private static void nearestBusStopOfEachEnd() {
        DoorstepRides x = new DoorstepRides();
        x.rider(WALKS, 70, 2, false);
        x.rider(WALKS, 70, 1, false);
        x.busStop(35, true);
        x.busStop(0, true);
        Checks.due("1 and 1 are 2", x.owes(0, 1, 34), false);
        Checks.due("are more than 1", x.owes(1, 1, 34), true);
        x.busStop(1, true);
        Checks.due("0 and 1", x.owes(1, 1, 34), false);
        x.busStop(0, false);
        x.busStop(1, false);
        Checks.due("9 and 1", x.owes(0, 1, 34), true);
        x.busStop(35, false);
        Checks.due("no bus stops", x.owes(0, 35, 35), true);
    }

    // ---- riders

    private static void sixteenRiders() {
        DoorstepRides x = new DoorstepRides();
        for (int i = 0; i < 16; i++) {
            Checks.due("its number", x.rider(i % 3, 70, 5, false), i);
        }
        Checks.due("the last one", x.riderOf(15, 2), 0);
        Checks.refused("a 17th", Checks.STATE, () -> x.rider(0, 70, 5, false));
        Checks.refused("is not there", Checks.INDEX, () -> x.riderOf(16, 2));
        x.end();
        Checks.refused("a 17th on another day", Checks.STATE, () -> x.rider(0, 70, 5, false));
    }

    private static void riderFirstAndLastOfEachRange() {
        DoorstepRides x = new DoorstepRides();
        Checks.due("kind 0", x.rider(WALKS, 70, 5, false), 0);
        Checks.due("kind 2", x.rider(CHAIR, 70, 5, false), 1);
        Checks.due("weight 30", x.rider(WALKS, 30, 5, false), 2);
        Checks.due("weight 300", x.rider(WALKS, 300, 5, false), 3);
        Checks.due("walk 0", x.rider(WALKS, 70, 0, true), 4);
        Checks.due("walk 10", x.rider(WALKS, 70, 10, true), 5);
        Checks.due("all least", x.rider(WALKS, 30, 0, false), 6);
        Checks.due("all most", x.rider(CHAIR, 300, 10, true), 7);
    }

    /** For each walk: as many steps as it, in all, are not more than it; one more are. */
    private static void owedBeyondTheWalk() {
        for (int walk = 0; walk <= 10; walk++) {
            for (int kind = WALKS; kind <= CHAIR; kind++) {
                dueOwedBeyond("summer, kind " + kind + ", walk " + walk, kind, walk, false, walk);
            }
        }
    }

    private static void halfOfTheWalkInWinter() {
        int[] half = {0, 0, 1, 1, 2, 2, 3, 3, 4, 4, 5};
        for (int walk = 0; walk <= 10; walk++) {
            dueOwedBeyond("winter, walks, " + walk, WALKS, walk, true, walk);
            dueOwedBeyond("winter, a walker, " + walk, WALKER, walk, true, half[walk]);
            dueOwedBeyond("winter, a chair, " + walk, CHAIR, walk, true, half[walk]);
        }
    }

    private static void dueOwedBeyond(String what, int kind, int walk, boolean isWinter, int most) {
        DoorstepRides x = new DoorstepRides();
        x.rider(kind, 70, walk, false);
        x.busStop(0, true);
        x.winter(isWinter);
        for (int all = 0; all <= 20; all++) {
            int one = Math.min(all, 10);
            boolean isMore = all > most;
            Checks.due(what + ", " + all + " steps", x.owes(0, placeAt(one), placeAt(all - one)), isMore);
            Checks.due(what + ", " + all + " steps turned", x.owes(0, placeAt(all - one), placeAt(one)), isMore);
        }
    }

    private static void winterComesAndGoes() {
        DoorstepRides x = new DoorstepRides();
        x.rider(WALKER, 70, 1, false);
        x.busStop(0, true);
        Checks.due("summer", x.owes(0, 1, 0), false);
        Checks.due("it was summer", x.winter(true), false);
        Checks.due("winter", x.owes(0, 1, 0), true);
        Checks.due("it was winter", x.winter(true), true);
        x.end();
        Checks.due("winter the next day", x.owes(0, 1, 0), true);
        Checks.due("it was winter still", x.winter(false), true);
        Checks.due("it was summer again", x.winter(false), false);
        Checks.due("summer again", x.owes(0, 1, 0), false);
    }

    private static void owesFirstAndLastPlace() {
        DoorstepRides x = new DoorstepRides();
        x.rider(WALKS, 70, 0, false);
        x.busStop(0, true);
        Checks.due("both 0", x.owes(0, 0, 0), false);
        Checks.due("0 and 35", x.owes(0, 0, 35), true);
        Checks.due("35 and 0", x.owes(0, 35, 0), true);
        x.busStop(35, true);
        Checks.due("0 and 35 with a bus stop", x.owes(0, 0, 35), false);
        Checks.due("both 35", x.owes(0, 35, 35), false);
    }

    /** A ride is DENIED by what is owed just then: with as many steps as the walk, and with one more. */
    private static void askWhatIsOwed() {
        DoorstepRides x = Checks.town(8, 3);
        x.busStop(0, true);
        Checks.due("5 steps", x.requestOf(x.ask(0, 2, 3, 100), 1), DoorstepRides.NOT_OWED);
        Checks.due("6 steps", x.requestOf(x.ask(0, 2, 4, 100), 0), DoorstepRides.PROMISED);
        x.winter(true);
        Checks.due("2 steps in winter", x.requestOf(x.ask(1, 0, 2, 200), 1), DoorstepRides.NOT_OWED);
        Checks.due("3 steps in winter", x.requestOf(x.ask(1, 1, 2, 200), 0), DoorstepRides.PROMISED);
    }
}
