import java.util.function.Consumer;
import java.util.function.Supplier;

/**
 * Every refused call: the exception that is due, the first one of its comment where several apply, and that it
 * changes nothing; and that questions change nothing.
 */
public final class RefusedTest {
    private static final int INDEX = Checks.INDEX, ARGUMENT = Checks.ARGUMENT, STATE = Checks.STATE;
    private static final int LEAST = Integer.MIN_VALUE, MOST = Integer.MAX_VALUE;

    private RefusedTest() {
    }

    public static void main(String[] args) {
        Checks.runAll(RefusedTest.class);
    }

    /** One argument of a call, the others being as they should be. */
    private interface Argument {
        void of(DoorstepRides x, int value);
    }

    // ---- the towns

    /** Four riders, two vehicles, a bus stop, winter, and requests: four PROMISED, one NOT_OWED, one no-show. */
    private static DoorstepRides morning() {
        DoorstepRides x = new DoorstepRides();
        x.vehicle(0, 5, 2, 200);
        x.vehicle(35, 8, 3, 400);
        x.rider(0, 70, 5, false);
        x.rider(1, 80, 4, true);
        x.rider(2, 90, 3, false);
        x.rider(2, 300, 0, true);
        x.busStop(21, true);
        x.winter(true);
        x.ask(0, 0, 5, 100);
        x.ask(1, 1, 4, 150);
        x.ask(2, 5, 30, 200);
        x.ask(3, 0, 35, 250);
        x.ask(0, 21, 20, 50);
        x.cancel(x.ask(0, 0, 1, 30));
        return x;
    }

    /** The same at 110: the first request is aboard, and its vehicle has left for its drop. */
    private static DoorstepRides midday() {
        DoorstepRides x = morning();
        x.lift(1, false);
        x.absent(1);
        x.pass(110);
        return x;
    }

    /** A request of each state, by its number: 0 PROMISED, 1 ABOARD and so on. */
    private static DoorstepRides ofEachState() {
        DoorstepRides x = Checks.town(8, 3);
        x.ask(0, 0, 1, 200);
        x.ask(0, 0, 1, 160);
        x.ask(0, 0, 1, 10);
        x.ask(0, 0, 1, 40);
        x.ask(0, 0, 1, 80);
        x.ask(2, 0, 1, 120);
        x.absent(3);
        x.cancel(4);
        x.lift(0, false);
        x.ask(2, 0, 1, 240);
        x.pass(120);
        x.pass(42);
        return x;
    }

    private static DoorstepRides leftToPickUp() {
        DoorstepRides x = Checks.town(8, 3);
        x.ask(0, 5, 0, 100);
        x.pass(90);
        return x;
    }

    /** 16 riders, 4 vehicles and 60 requests. */
    private static DoorstepRides full() {
        DoorstepRides x = new DoorstepRides();
        for (int i = 0; i < 4; i++) {
            x.vehicle(0, 2, 1, 400);
        }
        for (int i = 0; i < 16; i++) {
            x.rider(i % 3, 70, 5, false);
        }
        for (int i = 0; i < 60; i++) {
            x.ask(i % 16, 0, 1, 15 + 9 * i);
        }
        return x;
    }

    private static DoorstepRides lastDay() {
        DoorstepRides x = Checks.town(8, 3);
        x.ask(0, 0, 1, 10);
        for (int i = 0; i < 400; i++) {
            x.end();
        }
        x.pass(7);
        return x;
    }

    private static DoorstepRides at480And1() {
        DoorstepRides x = morning();
        for (int i = 0; i < 4; i++) {
            x.pass(120);
        }
        x.pass(1);
        return x;
    }

    private static DoorstepRides at600() {
        DoorstepRides x = morning();
        for (int i = 0; i < 5; i++) {
            x.pass(120);
        }
        return x;
    }

    // ---- what they have in common

    /** Below its range and above it, by one and by all. */
    private static void outOfRange(String what, int least, int most, Argument call) {
        int[] values = {least - 1, most + 1, LEAST, MOST};
        for (int value : values) {
            Twins.refused(what + " " + value, ARGUMENT, RefusedTest::morning, x -> call.of(x, value));
            Twins.refused(what + " " + value + " at 110", ARGUMENT, RefusedTest::midday, x -> call.of(x, value));
        }
    }

    /** There are none in a new object; else the numbers beside those that there are. */
    private static void noSuch(String what, int howMany, Argument call) {
        int[] values = {-1, howMany, LEAST, MOST};
        for (int value : values) {
            Twins.refused("no " + what + " " + value, INDEX, RefusedTest::morning, x -> call.of(x, value));
        }
        Twins.refused("no " + what + " at all", INDEX, DoorstepRides::new, x -> call.of(x, 0));
    }

    private static void noSuchRider(Argument call) {
        noSuch("rider", 4, call);
        Twins.refused("no 17th rider", INDEX, RefusedTest::full, x -> call.of(x, 16));
    }

    private static void noSuchVehicle(Argument call) {
        noSuch("vehicle", 2, call);
        Twins.refused("no fifth vehicle", INDEX, RefusedTest::full, x -> call.of(x, 4));
    }

    private static void noSuchRequest(Argument call) {
        noSuch("request", 6, call);
        Twins.refused("no 61st request", INDEX, RefusedTest::full, x -> call.of(x, 60));
    }

    private static void refused(String what, int want, Supplier<DoorstepRides> town, Consumer<DoorstepRides> call) {
        Twins.refused(what, want, town, call);
    }

    // ---- rider, busStop, vehicle, lift

    private static void riderOutOfRange() {
        outOfRange("kind", 0, 2, (x, value) -> x.rider(value, 70, 5, false));
        outOfRange("weight", 30, 300, (x, value) -> x.rider(0, value, 5, false));
        outOfRange("walk", 0, 10, (x, value) -> x.rider(0, 70, value, false));
    }

    private static void riderThereAreSixteen() {
        refused("a 17th rider", STATE, RefusedTest::full, x -> x.rider(0, 70, 5, false));
        refused("a 17th rider with a helper", STATE, RefusedTest::full, x -> x.rider(2, 300, 10, true));
    }

    private static void riderFirstException() {
        refused("a 17th of a wrong kind", ARGUMENT, RefusedTest::full, x -> x.rider(3, 70, 5, false));
        refused("a 17th of a wrong weight", ARGUMENT, RefusedTest::full, x -> x.rider(0, 29, 5, false));
        refused("a 17th of a wrong walk", ARGUMENT, RefusedTest::full, x -> x.rider(0, 70, 11, false));
    }

    private static void busStopOutOfRange() {
        outOfRange("place", 0, 35, (x, value) -> x.busStop(value, true));
        outOfRange("place, away", 0, 35, (x, value) -> x.busStop(value, false));
    }

    private static void vehicleOutOfRange() {
        outOfRange("base", 0, 35, (x, value) -> x.vehicle(value, 8, 3, 400));
        outOfRange("seats", 1, 8, (x, value) -> x.vehicle(0, value, 3, 400));
        outOfRange("ties", 0, 3, (x, value) -> x.vehicle(0, 8, value, 400));
        outOfRange("lift", 50, 400, (x, value) -> x.vehicle(0, 8, 3, value));
    }

    private static void vehicleThereAreFour() {
        refused("a fifth vehicle", STATE, RefusedTest::full, x -> x.vehicle(0, 8, 3, 400));
    }

    private static void vehicleFirstException() {
        refused("a fifth with a wrong base", ARGUMENT, RefusedTest::full, x -> x.vehicle(36, 8, 3, 400));
        refused("a fifth with wrong seats", ARGUMENT, RefusedTest::full, x -> x.vehicle(0, 0, 3, 400));
        refused("a fifth with wrong ties", ARGUMENT, RefusedTest::full, x -> x.vehicle(0, 8, 4, 400));
        refused("a fifth with a wrong lift", ARGUMENT, RefusedTest::full, x -> x.vehicle(0, 8, 3, 49));
    }

    private static void liftNoVehicle() {
        noSuchVehicle((x, value) -> x.lift(value, false));
        noSuchVehicle((x, value) -> x.lift(value, true));
    }

    // ---- ask, cancel, absent

    private static void askNoRider() {
        noSuchRider((x, value) -> x.ask(value, 0, 1, 300));
    }

    private static void askOutOfRange() {
        outOfRange("from", 0, 35, (x, value) -> x.ask(0, value, 1, 300));
        outOfRange("to", 0, 35, (x, value) -> x.ask(0, 1, value, 300));
        outOfRange("minute", 0, 600, (x, value) -> x.ask(0, 0, 1, value));
    }

    private static void askBothPlacesTheSame() {
        for (int place = 0; place < 36; place++) {
            int same = place;
            Checks.refused("from and to " + place, ARGUMENT, () -> morning().ask(0, same, same, 300));
        }
        refused("from and to 0", ARGUMENT, RefusedTest::morning, x -> x.ask(0, 0, 0, 300));
        refused("from and to 35", ARGUMENT, RefusedTest::midday, x -> x.ask(0, 35, 35, 300));
        refused("both the same, where a bus stop is", ARGUMENT, RefusedTest::morning, x -> x.ask(0, 21, 21, 300));
    }

    private static void askThereAreSixty() {
        refused("a 61st", STATE, RefusedTest::full, x -> x.ask(0, 0, 1, 300));
        refused("a 61st that would be NO_ROOM", STATE, RefusedTest::full, x -> x.ask(0, 0, 1, 600));
    }

    private static void askFirstException() {
        refused("no rider, all else wrong", INDEX, RefusedTest::full, x -> x.ask(16, 36, 36, 601));
        refused("no rider, and a wrong place", INDEX, RefusedTest::morning, x -> x.ask(-1, -1, 0, 300));
        refused("no rider, and both the same", INDEX, RefusedTest::morning, x -> x.ask(4, 7, 7, 300));
        refused("no rider, and 60", INDEX, RefusedTest::full, x -> x.ask(16, 0, 1, 300));
        refused("a wrong from, and 60", ARGUMENT, RefusedTest::full, x -> x.ask(0, 36, 1, 300));
        refused("a wrong to, and 60", ARGUMENT, RefusedTest::full, x -> x.ask(0, 1, -1, 300));
        refused("a wrong minute, and 60", ARGUMENT, RefusedTest::full, x -> x.ask(0, 0, 1, 601));
        refused("both the same, and 60", ARGUMENT, RefusedTest::full, x -> x.ask(0, 1, 1, 300));
    }

    private static void cancelNoRequest() {
        noSuchRequest((x, value) -> x.cancel(value));
    }

    private static void cancelNotPromised() {
        for (int state = 1; state <= 6; state++) {
            int number = state;
            refused("cancel, state " + state, STATE, RefusedTest::ofEachState, x -> x.cancel(number));
        }
        refused("cancel, NOT_OWED", STATE, RefusedTest::morning, x -> x.cancel(4));
        refused("cancel, FAILED by the end of a day", STATE, RefusedTest::failedByTheEnd, x -> x.cancel(0));
        Checks.due("cancel, state 0", ofEachState().cancel(0), true);
    }

    private static void cancelLeftToPickUp() {
        refused("left", STATE, RefusedTest::leftToPickUp, x -> x.cancel(0));
        DoorstepRides x = Checks.town(8, 3);
        x.ask(0, 5, 0, 100);
        x.pass(89);
        Checks.due("a minute ahead of that", x.cancel(0), true);
    }

    private static void absentNoRequest() {
        noSuchRequest((x, value) -> x.absent(value));
    }

    private static void absentNotPromised() {
        for (int state = 1; state <= 6; state++) {
            int number = state;
            refused("absent, state " + state, STATE, RefusedTest::ofEachState, x -> x.absent(number));
        }
        refused("absent, NOT_OWED", STATE, RefusedTest::morning, x -> x.absent(4));
        refused("absent, FAILED by the end of a day", STATE, RefusedTest::failedByTheEnd, x -> x.absent(0));
        ofEachState().absent(0);
        leftToPickUp().absent(0);
    }

    /** What the tests above rest on: the request 0 is PROMISED, 1 ABOARD and so on. */
    private static void thereIsOneOfEachState() {
        DoorstepRides x = ofEachState();
        for (int state = 0; state <= 6; state++) {
            Checks.due("state of the request", x.requestOf(state, 0), state);
        }
    }

    private static DoorstepRides failedByTheEnd() {
        DoorstepRides x = Checks.town(8, 3);
        x.ask(0, 0, 1, 540);
        x.ask(0, 0, 1, 100);
        for (int i = 0; i < 10; i++) {
            x.traffic(0, 60);
        }
        x.end();
        Checks.due("failed", x.requestOf(0, 0), DoorstepRides.FAILED);
        return x;
    }

    // ---- pass, end, traffic, mend

    private static void passOutOfRange() {
        outOfRange("minutes", 1, 120, DoorstepRides::pass);
    }

    private static void passAbove600() {
        refused("481 and 120", STATE, RefusedTest::at480And1, x -> x.pass(120));
        refused("600 and 1", STATE, RefusedTest::at600, x -> x.pass(1));
        refused("600 and 120", STATE, RefusedTest::at600, x -> x.pass(120));
        Checks.due("481 and 119", at480And1().pass(119), 600);
    }

    private static void passFirstException() {
        int[] values = {121, 0, -1, LEAST, MOST};
        for (int value : values) {
            refused("wrong minutes at 600", ARGUMENT, RefusedTest::at600, x -> x.pass(value));
        }
    }

    private static void endOnTheDay400() {
        refused("end on the day 400", STATE, RefusedTest::lastDay, DoorstepRides::end);
    }

    private static void trafficNoVehicle() {
        noSuchVehicle((x, value) -> x.traffic(value, 5));
    }

    private static void trafficOutOfRange() {
        outOfRange("minutes of traffic", 1, 60, (x, value) -> x.traffic(0, value));
    }

    private static void trafficFirstException() {
        noSuchVehicle((x, value) -> x.traffic(value, 0));
        noSuchVehicle((x, value) -> x.traffic(value, 61));
    }

    private static void mendNoVehicle() {
        noSuchVehicle((x, value) -> x.mend(value));
    }

    // ---- questions

    private static void owesRefused() {
        noSuchRider((x, value) -> x.owes(value, 0, 1));
        outOfRange("owes from", 0, 35, (x, value) -> x.owes(0, value, 1));
        outOfRange("owes to", 0, 35, (x, value) -> x.owes(0, 1, value));
    }

    private static void owesFirstException() {
        noSuchRider((x, value) -> x.owes(value, 36, 1));
        noSuchRider((x, value) -> x.owes(value, 1, -1));
    }

    private static void riderOfRefused() {
        noSuchRider((x, value) -> x.riderOf(value, 0));
        outOfRange("riderOf what", 0, 2, (x, value) -> x.riderOf(0, value));
    }

    private static void riderOfFirstException() {
        noSuchRider((x, value) -> x.riderOf(value, 3));
    }

    private static void requestOfRefused() {
        noSuchRequest((x, value) -> x.requestOf(value, 0));
        outOfRange("requestOf what", 0, 10, (x, value) -> x.requestOf(0, value));
    }

    private static void requestOfFirstException() {
        noSuchRequest((x, value) -> x.requestOf(value, 11));
    }

    private static void vehicleOfRefused() {
        noSuchVehicle((x, value) -> x.vehicleOf(value, 0));
        outOfRange("vehicleOf what", 0, 8, (x, value) -> x.vehicleOf(0, value));
    }

    private static void vehicleOfFirstException() {
        noSuchVehicle((x, value) -> x.vehicleOf(value, 9));
    }

    private static void stopOfRefused() {
        noSuchVehicle((x, value) -> x.stopOf(value, 0, 0));
        int stops = morning().vehicleOf(0, 2);
        Checks.due("there is a last stop", morning().stopOf(0, stops - 1, 1), 1);
        int[] values = {-1, stops, LEAST, MOST};
        for (int value : values) {
            refused("no stop " + value, INDEX, RefusedTest::morning, x -> x.stopOf(0, value, 0));
        }
        refused("no stop at all", INDEX, () -> Checks.town(8, 3), x -> x.stopOf(0, 0, 0));
        outOfRange("stopOf what", 0, 3, (x, value) -> x.stopOf(0, 0, value));
    }

    private static void stopOfFirstException() {
        noSuchVehicle((x, value) -> x.stopOf(value, -1, 4));
        refused("no stop, a wrong what", INDEX, RefusedTest::morning, x -> x.stopOf(0, -1, 4));
        refused("no stop in an empty route, a wrong what", INDEX, () -> Checks.town(8, 3), x -> x.stopOf(0, 0, -1));
    }

    private static void seatsAnewNoVehicle() {
        noSuchVehicle((x, value) -> x.seatsAnew(value));
    }

    private static void driveNoVehicle() {
        noSuchVehicle((x, value) -> x.drive(value));
    }

    private static void leastDriveNoVehicle() {
        noSuchVehicle((x, value) -> x.leastDrive(value));
    }

    private static void countOutOfRange() {
        outOfRange("count what", 0, 9, DoorstepRides::count);
        Twins.refused("count 10 of none", ARGUMENT, DoorstepRides::new, x -> x.count(10));
        Twins.refused("count -1 of none", ARGUMENT, DoorstepRides::new, x -> x.count(-1));
    }

    private static void questionsChangeNothing() {
        Twins.unchanged("questions in the morning", RefusedTest::morning, RefusedTest::askAll);
        Twins.unchanged("questions at 110", RefusedTest::midday, RefusedTest::askAll);
        Twins.unchanged("questions among all states", RefusedTest::ofEachState, RefusedTest::askAll);
        Twins.unchanged("questions at 600", RefusedTest::at600, RefusedTest::askAll);
    }

    /** Each question once at least; what is asked of the vehicle 1 where there is none is refused, and that is fine. */
    private static void askAll(DoorstepRides x) {
        x.day();
        x.now();
        x.patterns();
        x.money();
        x.count(7);
        x.owes(0, 3, 33);
        x.riderOf(1, 2);
        for (int what = 0; what <= 10; what++) {
            x.requestOf(1, what);
        }
        for (int vehicle = 0; vehicle < 2; vehicle++) {
            x.leastDrive(vehicle);
            x.drive(vehicle);
            x.seatsAnew(vehicle);
            for (int what = 0; what <= 8; what++) {
                x.vehicleOf(vehicle, what);
            }
            for (int stop = 0; stop < x.vehicleOf(vehicle, 2); stop++) {
                x.stopOf(vehicle, stop, 2);
                x.stopOf(vehicle, stop, 3);
            }
        }
    }
}
