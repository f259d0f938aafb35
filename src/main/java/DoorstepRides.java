import java.util.ArrayList;

/**
 * Rides from door to door for those who cannot take the bus: riders, vehicles, requests with promised
 * minutes, routes into which rides are put so that all promises are kept, days that go minute by minute,
 * suspensions, fares, and a law that forbids a pattern of no.
 */
public final class DoorstepRides {
    public static final int NONE = -1;
    public static final int WALKS = 0, WALKER = 1, CHAIR = 2;
    public static final int PROMISED = 0, ABOARD = 1, SERVED = 2, MISSED = 3, CANCELLED = 4, FAILED = 5, DENIED = 6;
    public static final int NOT_OWED = 1, SUSPENDED = 2, NO_ROOM = 3;

    private static final int ROW = 6;
    private static final int PLACES = 36;
    private static final int STEP_MINUTES = 2;
    private static final int DAY_END = 600;
    private static final int LAST_DAY = 400;
    private static final int MOST_RIDERS = 16;
    private static final int MOST_VEHICLES = 4;
    private static final int MOST_REQUESTS = 60;
    private static final int MOST_STOPS = 16;
    private static final int MOST_STOPS_TO_ARRANGE = 6;
    private static final int PICK_SLACK = 20;
    private static final int RIDE_SLACK = 10;
    private static final int LIFT_DELAY = 30;
    private static final int TRY_MINUTES = 10;
    private static final int TRIES_EACH_WAY = 6;
    private static final int NOTICE = 60;
    private static final int RIDER_DAYS = 30;
    private static final int LAW_DAYS = 20;
    private static final int FARE = 200;
    private static final int FARE_A_STEP = 20;
    private static final int LATE = 7, LONG = 8, NO_SHOW = 9;

    private final ArrayList<Rider> riders = new ArrayList<>();
    private final ArrayList<Vehicle> vehicles = new ArrayList<>();
    private final ArrayList<Request> requests = new ArrayList<>();
    private final ArrayList<Request> toMend = new ArrayList<>();
    private final boolean[] busStops = new boolean[PLACES];
    private final Search search = new Search();
    private boolean isWinter = false;
    private int today = 0;
    private int minuteNow = 0;

    /** Begins without riders and vehicles: the day 0, the minute 0, summer. */
    public DoorstepRides() {
    }

    // ---- what is told

    /** Tells a rider, and answers its number. */
    public int rider(int kind, int weight, int walk, boolean hasHelper)
            throws IllegalArgumentException, IllegalStateException {
        demand(kind, WALKS, CHAIR);
        demand(weight, 30, 300);
        demand(walk, 0, 10);
        demandState(riders.size() < MOST_RIDERS);
        riders.add(new Rider(kind, weight, walk, hasHelper));
        return riders.size() - 1;
    }

    /** Tells whether it is winter from now on, and answers whether it was. */
    public boolean winter(boolean is) {
        boolean was = isWinter;
        isWinter = is;
        return was;
    }

    /** Makes a bus stop at a place, or takes it away, and answers how many there are then. */
    public int busStop(int place, boolean is) throws IllegalArgumentException {
        demandPlace(place);
        if (place >= 0 && place < busStops.length) {
            busStops[place] = is;
        }
        return busStopsInAll();
    }

    /** Tells a vehicle, and answers its number. */
    public int vehicle(int base, int seats, int ties, int lift)
            throws IllegalArgumentException, IllegalStateException {
        demandPlace(base);
        demand(seats, 1, 8);
        demand(ties, 0, 3);
        demand(lift, 50, 400);
        demandState(vehicles.size() < MOST_VEHICLES);
        vehicles.add(new Vehicle(vehicles.size(), base, seats, ties, lift));
        return vehicles.size() - 1;
    }

    /** Tells whether a lift works from now on, and answers whether it did. */
    public boolean lift(int vehicle, boolean does) throws IndexOutOfBoundsException {
        Vehicle told = vehicleNumbered(vehicle);
        boolean did = told.liftWorks;
        told.liftWorks = does;
        return did;
    }

    // ---- requests

    /** Asks for a ride on this day, and answers the number of the request. */
    public int ask(int rider, int from, int to, int minute)
            throws IndexOutOfBoundsException, IllegalArgumentException, IllegalStateException {
        Rider asking = riderNumbered(rider);
        demandPlace(from);
        demandPlace(to);
        demand(minute, 0, DAY_END);
        demandArgument(from != to);
        demandState(requests.size() < MOST_REQUESTS);
        Request asked = new Request(asking, from, to, today);
        if (!isOwed(asking, from, to)) {
            asked.deny(NOT_OWED);
        } else if (isSuspended(asking)) {
            asked.deny(SUSPENDED);
        } else if (!promise(asked, minute)) {
            asked.deny(NO_ROOM);
        }
        requests.add(asked);
        return requests.size() - 1;
    }

    /** Cancels a request, and answers whether it counts as a no-show. */
    public boolean cancel(int request) throws IndexOutOfBoundsException, IllegalStateException {
        Request told = requestNumbered(request);
        demandState(told.state == PROMISED);
        Vehicle carrier = carrierOf(told);
        demandState(carrier == null || !carrier.hasLeftFor(told));
        if (carrier != null) {
            carrier.takeOutStopsOf(told);
        }
        told.state = CANCELLED;
        told.cancelledLate = told.promised - minuteNow < NOTICE;
        return told.isNoShow();
    }

    /** Tells that the rider of a request will not be there. */
    public void absent(int request) throws IndexOutOfBoundsException, IllegalStateException {
        Request told = requestNumbered(request);
        demandState(told.state == PROMISED);
        told.riderIsAbsent = true;
    }

    // ---- the day

    /** Lets minutes pass, and answers the minute then. */
    public int pass(int minutes) throws IllegalArgumentException, IllegalStateException {
        demand(minutes, 1, 120);
        demandState(minuteNow + minutes <= DAY_END);
        for (int i = 0; i < minutes; i++) {
            passMinute();
        }
        return minuteNow;
    }

    /** Ends the day, and answers how many requests are FAILED by that, at its end. */
    public int end() throws IllegalStateException {
        demandState(today < LAST_DAY);
        int left = DAY_END - minuteNow;
        for (int i = 0; i < left; i++) {
            passMinute();
        }
        int failed = failAllOpen();
        for (int i = 0; i < vehicles.size(); i++) {
            vehicles.get(i).beginDay();
        }
        today++;
        minuteNow = 0;
        return failed;
    }

    /** Tells of traffic, and answers when the vehicle is free, or ends the stop for which it has left. */
    public int traffic(int vehicle, int minutes) throws IndexOutOfBoundsException, IllegalArgumentException {
        Vehicle held = vehicleNumbered(vehicle);
        demand(minutes, 1, 60);
        return held.holdUp(minutes, minuteNow);
    }

    /** Mends a route, and answers how many requests were taken out and put into a route. */
    public int mend(int vehicle) throws IndexOutOfBoundsException {
        Vehicle mended = vehicleNumbered(vehicle);
        mended.listOpenPicks(toMend);
        int moved = 0;
        for (int i = 0; i < toMend.size(); i++) {
            Request looked = toMend.get(i);
            if (mended.wouldFail(looked, minuteNow) && move(mended, looked)) {
                moved++;
            }
        }
        return moved;
    }

    // ---- questions

    /** Tells the day. */
    public int day() {
        return today;
    }

    /** Tells the minute. */
    public int now() {
        return minuteNow;
    }

    /** Tells whether a ride is owed to a rider, as things are. */
    public boolean owes(int rider, int from, int to) throws IndexOutOfBoundsException, IllegalArgumentException {
        Rider asking = riderNumbered(rider);
        demandPlace(from);
        demandPlace(to);
        return isOwed(asking, from, to);
    }

    /** Tells of a rider. */
    public int riderOf(int rider, int what) throws IndexOutOfBoundsException, IllegalArgumentException {
        Rider told = riderNumbered(rider);
        demand(what, 0, 2);
        if (what == 0) {
            return lately(told, false);
        }
        if (what == 1) {
            return lately(told, true);
        }
        return isSuspended(told) ? 1 : 0;
    }

    /** Tells of a request. */
    public int requestOf(int request, int what) throws IndexOutOfBoundsException, IllegalArgumentException {
        Request told = requestNumbered(request);
        demand(what, 0, 10);
        return told.tell(what);
    }

    /** Tells of a vehicle. */
    public int vehicleOf(int vehicle, int what) throws IndexOutOfBoundsException, IllegalArgumentException {
        Vehicle told = vehicleNumbered(vehicle);
        demand(what, 0, 8);
        return told.tell(what, minuteNow);
    }

    /** Tells of an open stop. */
    public int stopOf(int vehicle, int place, int what) throws IndexOutOfBoundsException, IllegalArgumentException {
        Vehicle asked = vehicleNumbered(vehicle);
        Stop told = openStop(asked, place);
        demand(what, 0, 3);
        if (what == 0) {
            return numberOf(told.request);
        }
        if (what == 1) {
            return told.isDrop ? 1 : 0;
        }
        asked.layPlan(minuteNow);
        return what == 2 ? told.begins : told.ends;
    }

    /** Tells the seats that are taken in a vehicle, by all its stops of the day that are done, one by one. */
    public int seatsAnew(int vehicle) throws IndexOutOfBoundsException {
        return vehicleNumbered(vehicle).seatsByDoneStops();
    }

    /** Tells the drive of a vehicle. */
    public int drive(int vehicle) throws IndexOutOfBoundsException {
        return vehicleNumbered(vehicle).driveMinutes();
    }

    /** Tells the least drive of all right routes that a vehicle could have with the same open stops. */
    public int leastDrive(int vehicle) throws IndexOutOfBoundsException {
        Vehicle asked = vehicleNumbered(vehicle);
        if (asked.stops.size() > MOST_STOPS_TO_ARRANGE) {
            return NONE;
        }
        return leastArranged(asked, asked.firstOpen(), minuteNow, NONE);
    }

    /** Tells which patterns there are: 1 for that of no, and 2 for that of late rides, together. */
    public int patterns() {
        return (isPatternOfNo() ? 1 : 0) + (isPatternOfLateRides() ? 2 : 0);
    }

    /** Counts requests of all days. */
    public int count(int what) throws IllegalArgumentException {
        demand(what, 0, NO_SHOW);
        int counted = 0;
        for (int i = 0; i < requests.size(); i++) {
            if (isCounted(requests.get(i), what)) {
                counted++;
            }
        }
        return counted;
    }

    /** Tells what all rides cost that were SERVED. */
    public long money() {
        long cents = 0;
        for (int i = 0; i < requests.size(); i++) {
            cents += requests.get(i).fare();
        }
        return cents;
    }

    // ---- what the calls demand

    private static void demand(int value, int least, int most) {
        demandArgument(value >= least && value <= most);
    }

    private static void demandPlace(int place) {
        demand(place, 0, PLACES - 1);
    }

    private static void demandArgument(boolean holds) {
        if (!holds) {
            throw new IllegalArgumentException("out of its range");
        }
    }

    private static void demandState(boolean holds) {
        if (!holds) {
            throw new IllegalStateException("not as things are");
        }
    }

    private Rider riderNumbered(int number) {
        if (number < 0 || number >= riders.size()) {
            throw new IndexOutOfBoundsException("no such rider");
        }
        return riders.get(number);
    }

    private Vehicle vehicleNumbered(int number) {
        if (number < 0 || number >= vehicles.size()) {
            throw new IndexOutOfBoundsException("no such vehicle");
        }
        return vehicles.get(number);
    }

    private Request requestNumbered(int number) {
        if (number < 0 || number >= requests.size()) {
            throw new IndexOutOfBoundsException("no such request");
        }
        return requests.get(number);
    }

    private static Stop openStop(Vehicle asked, int place) {
        if (place < 0 || place >= asked.stops.size()) {
            throw new IndexOutOfBoundsException("no such stop");
        }
        return asked.stops.get(place);
    }

    // ---- places and bus stops

    private static int steps(int from, int to) {
        return Math.abs(from / ROW - to / ROW) + Math.abs(from % ROW - to % ROW);
    }

    private int busStopsInAll() {
        int all = 0;
        for (int place = 0; place < busStops.length; place++) {
            if (busStops[place]) {
                all++;
            }
        }
        return all;
    }

    private int stepsToBus(int from) {
        int nearest = PLACES;
        for (int place = 0; place < busStops.length; place++) {
            if (busStops[place]) {
                nearest = Math.min(nearest, steps(from, place));
            }
        }
        return nearest;
    }

    private boolean isOwed(Rider asking, int from, int to) {
        if (busStopsInAll() == 0) {
            return true;
        }
        boolean walksHalf = isWinter && asking.kind != WALKS;
        int walk = walksHalf ? asking.walk / 2 : asking.walk;
        return stepsToBus(from) + stepsToBus(to) > walk;
    }

    // ---- requests and their routes

    private Vehicle carrierOf(Request asked) {
        int number = asked.vehicleNumber;
        return number >= 0 && number < vehicles.size() ? vehicles.get(number) : null;
    }

    private int numberOf(Request asked) {
        for (int i = 0; i < requests.size(); i++) {
            if (requests.get(i) == asked) {
                return i;
            }
        }
        return NONE;
    }

    /** Tries the minutes nearest to the wanted one first, of two as near the later one. */
    private boolean promise(Request asked, int wanted) {
        Stop pick = new Stop(asked, false);
        Stop drop = new Stop(asked, true);
        for (int tries = 0; tries <= 2 * TRIES_EACH_WAY; tries++) {
            int away = TRY_MINUTES * ((tries + 1) / 2);
            asked.promised = tries % 2 == 1 ? wanted + away : wanted - away;
            boolean isOfTheDay = asked.promised > minuteNow && asked.promised <= DAY_END;
            if (isOfTheDay && search.putBest(vehicles, pick, drop, minuteNow)) {
                return true;
            }
        }
        return false;
    }

    private boolean move(Vehicle from, Request looked) {
        int pickAt = from.placeOf(looked, false);
        int dropAt = from.placeOf(looked, true);
        if (pickAt < 0 || dropAt <= pickAt || dropAt >= from.stops.size()) {
            return false;
        }
        Stop drop = from.stops.remove(dropAt);
        Stop pick = from.stops.remove(pickAt);
        if (search.putBest(vehicles, pick, drop, minuteNow)) {
            return true;
        }
        from.putIn(pick, pickAt, drop, dropAt);
        return false;
    }

    /** The least drive of the right orders of the stops from a place on, or the least so far, if that is less. */
    private static int leastArranged(Vehicle asked, int from, int now, int leastSoFar) {
        ArrayList<Stop> stops = asked.stops;
        if (from >= stops.size() || from >= MOST_STOPS_TO_ARRANGE) {
            int minutes = asked.driveMinutes();
            boolean isLess = leastSoFar == NONE || minutes < leastSoFar;
            return isLess && asked.isRight(now) ? minutes : leastSoFar;
        }
        int least = leastSoFar;
        for (int i = from; i < stops.size(); i++) {
            if (asked.mayComeNext(from, i)) {
                asked.swapStops(from, i);
                least = leastArranged(asked, from + 1, now, least);
                asked.swapStops(from, i);
            }
        }
        return least;
    }

    // ---- minutes and days

    private void passMinute() {
        minuteNow++;
        for (int i = 0; i < vehicles.size(); i++) {
            vehicles.get(i).finishStop(minuteNow);
            vehicles.get(i).leaveIfDue(minuteNow);
        }
    }

    private int failAllOpen() {
        int failed = 0;
        for (int i = 0; i < requests.size(); i++) {
            Request asked = requests.get(i);
            if (asked.state == PROMISED || asked.state == ABOARD) {
                asked.state = FAILED;
                failed++;
            }
        }
        return failed;
    }

    // ---- proportion and law

    /** How many of a rider's requests of the last days were not DENIED, or how many of these are no-shows. */
    private int lately(Rider told, boolean noShowsAlone) {
        int counted = 0;
        for (int i = 0; i < requests.size(); i++) {
            Request asked = requests.get(i);
            boolean counts = asked.rider == told && asked.state != DENIED && isOfLast(RIDER_DAYS, asked);
            if (counts && (!noShowsAlone || asked.isNoShow())) {
                counted++;
            }
        }
        return counted;
    }

    private boolean isOfLast(int days, Request asked) {
        return asked.dayAsked > today - days;
    }

    private boolean isSuspended(Rider told) {
        int noShows = lately(told, true);
        return noShows >= 3 && 5 * noShows >= lately(told, false);
    }

    private boolean isPatternOfNo() {
        int noRoom = 0;
        int all = 0;
        for (int i = 0; i < requests.size(); i++) {
            Request asked = requests.get(i);
            if (isOfLast(LAW_DAYS, asked) && asked.reason != NOT_OWED && asked.reason != SUSPENDED) {
                all++;
                noRoom += asked.reason == NO_ROOM ? 1 : 0;
            }
        }
        return noRoom >= 2 && 20 * noRoom > all;
    }

    private boolean isPatternOfLateRides() {
        int bad = 0;
        int served = 0;
        for (int i = 0; i < requests.size(); i++) {
            Request asked = requests.get(i);
            if (isOfLast(LAW_DAYS, asked) && asked.state == SERVED) {
                served++;
                bad += asked.isLate() || asked.isLong() ? 1 : 0;
            }
        }
        return 10 * bad > served;
    }

    private static boolean isCounted(Request asked, int what) {
        switch (what) {
            case LATE:
                return asked.isLate();
            case LONG:
                return asked.isLong();
            case NO_SHOW:
                return asked.isNoShow();
            default:
                return asked.state == what;
        }
    }

    /** One who rides, as told. */
    private static final class Rider {
        final int kind;
        final int weight;
        final int walk;
        final int seatsNeeded;
        final int stopMinutes;

        Rider(int kind, int weight, int walk, boolean hasHelper) {
            this.kind = kind;
            this.weight = weight;
            this.walk = walk;
            this.seatsNeeded = (kind == CHAIR ? 2 : 1) + (hasHelper ? 1 : 0);
            this.stopMinutes = kind == CHAIR ? 6 : kind == WALKER ? 4 : 2;
        }
    }

    /** A request, and what became of it. */
    private static final class Request {
        final Rider rider;
        final int from;
        final int to;
        final int dayAsked;
        final int longestRide;
        int state = PROMISED;
        int reason;
        int promised = NONE;
        int vehicleNumber = NONE;
        int pickEndsByPlan = NONE;
        int pickBegan = NONE;
        int pickEnded = NONE;
        int dropBegan = NONE;
        boolean riderIsAbsent;
        boolean cancelledLate;

        Request(Rider rider, int from, int to, int dayAsked) {
            this.rider = rider;
            this.from = from;
            this.to = to;
            this.dayAsked = dayAsked;
            this.longestRide = RIDE_SLACK + 2 * STEP_MINUTES * steps(from, to);
        }

        void deny(int why) {
            state = DENIED;
            reason = why;
            promised = NONE;
        }

        boolean isLate() {
            return pickBegan != NONE && pickBegan > promised + PICK_SLACK;
        }

        boolean isLong() {
            return dropBegan != NONE && dropBegan > pickEnded + longestRide;
        }

        boolean isNoShow() {
            return state == MISSED || state == CANCELLED && cancelledLate;
        }

        /** The last minute at which the drop keeps the promise: by the pick that is done, or else by its plan. */
        int dropDue() {
            return (pickEnded != NONE ? pickEnded : pickEndsByPlan) + longestRide;
        }

        int fare() {
            if (state != SERVED || isLate() || isLong()) {
                return 0;
            }
            return FARE + FARE_A_STEP * steps(from, to);
        }

        int tell(int what) {
            switch (what) {
                case 0:
                    return state;
                case 1:
                    return reason;
                case 2:
                    return promised;
                case 3:
                    return vehicleNumber;
                case 4:
                    return pickBegan;
                case 5:
                    return pickEnded;
                case 6:
                    return dropBegan;
                case 7:
                    return isLate() ? 1 : 0;
                case 8:
                    return isLong() ? 1 : 0;
                case 9:
                    return dayAsked;
                default:
                    return isNoShow() ? 1 : 0;
            }
        }
    }

    /** A stop of a route: to pick up, or to drop, a request. */
    private static final class Stop {
        final Request request;
        final boolean isDrop;
        final int place;
        int begins;
        int ends;
        boolean waitedForLift;

        Stop(Request request, boolean isDrop) {
            this.request = request;
            this.isDrop = isDrop;
            this.place = isDrop ? request.to : request.from;
        }

        boolean isChairs() {
            return request.rider.kind == CHAIR;
        }

        boolean isInTime() {
            return begins <= (isDrop ? request.dropDue() : request.promised + PICK_SLACK);
        }

        void hold(int minutes) {
            begins += minutes;
            ends += minutes;
        }
    }

    /** A vehicle, where it is, who is aboard, and its route. */
    private static final class Vehicle {
        final int number;
        final int base;
        final int seats;
        final int ties;
        final int liftBears;
        final ArrayList<Stop> stops = new ArrayList<>();
        final ArrayList<Stop> doneStops = new ArrayList<>();
        final ArrayList<Request> aboard = new ArrayList<>();
        final Plan plan = new Plan();
        boolean liftWorks = true;
        boolean hasLeft;
        int place;
        int free;

        Vehicle(int number, int base, int seats, int ties, int liftBears) {
            this.number = number;
            this.base = base;
            this.seats = seats;
            this.ties = ties;
            this.liftBears = liftBears;
            this.place = base;
        }

        void beginDay() {
            stops.clear();
            doneStops.clear();
            aboard.clear();
            hasLeft = false;
            place = base;
            free = 0;
        }

        // What is asked of its route.

        /** Where the stops begin for which it has not left. */
        int firstOpen() {
            return hasLeft ? 1 : 0;
        }

        boolean hasLeftFor(Request asked) {
            return hasLeft && !stops.isEmpty() && stops.get(0).request == asked;
        }

        int placeOf(Request asked, boolean isDrop) {
            for (int i = 0; i < stops.size(); i++) {
                if (stops.get(i).request == asked && stops.get(i).isDrop == isDrop) {
                    return i;
                }
            }
            return NONE;
        }

        boolean mayPut(Rider asking) {
            boolean bears = asking.kind != CHAIR || liftWorks && liftBears >= asking.weight;
            return bears && stops.size() + 2 <= MOST_STOPS;
        }

        void listOpenPicks(ArrayList<Request> into) {
            into.clear();
            for (int i = firstOpen(); i < stops.size(); i++) {
                if (!stops.get(i).isDrop) {
                    into.add(stops.get(i).request);
                }
            }
        }

        int driveMinutes() {
            int at = place;
            int walked = 0;
            for (int i = 0; i < stops.size(); i++) {
                walked += steps(at, stops.get(i).place);
                at = stops.get(i).place;
            }
            return STEP_MINUTES * (walked + steps(at, base));
        }

        /** Gives each open stop its minutes, and answers when the vehicle is back at its base. */
        int layPlan(int now) {
            plan.start(this, now);
            for (int i = 0; i < stops.size(); i++) {
                plan.goTo(stops.get(i), i == 0 && hasLeft);
            }
            return plan.backAt(base);
        }

        boolean isRight(int now) {
            plan.start(this, now);
            for (int i = 0; i < stops.size(); i++) {
                Stop stop = stops.get(i);
                plan.goTo(stop, i == 0 && hasLeft);
                if (!stop.isInTime() || !plan.canLoad(stop, seats, ties)) {
                    return false;
                }
            }
            return stops.isEmpty() || plan.backAt(base) <= DAY_END;
        }

        /** Whether the pick of a request would begin too late, or its drop would, by the plan as it is. */
        boolean wouldFail(Request asked, int now) {
            layPlan(now);
            for (int i = 0; i < stops.size(); i++) {
                if (stops.get(i).request == asked && !stops.get(i).isInTime()) {
                    return true;
                }
            }
            return false;
        }

        int tell(int what, int now) {
            switch (what) {
                case 0:
                    return place;
                case 1:
                    return free;
                case 2:
                    return stops.size();
                case 3:
                    return seatsTaken();
                case 4:
                    return chairsAboard();
                case 5:
                    return hasLeft ? 1 : 0;
                case 6:
                    return liftWorks ? 1 : 0;
                case 7:
                    return stops.isEmpty() ? NONE : layPlan(now);
                default:
                    return isRight(now) ? 1 : 0;
            }
        }

        int seatsTaken() {
            int taken = 0;
            for (int i = 0; i < aboard.size(); i++) {
                taken += aboard.get(i).rider.seatsNeeded;
            }
            return taken;
        }

        int chairsAboard() {
            int chairs = 0;
            for (int i = 0; i < aboard.size(); i++) {
                chairs += aboard.get(i).rider.kind == CHAIR ? 1 : 0;
            }
            return chairs;
        }

        int seatsByDoneStops() {
            int taken = 0;
            for (int i = 0; i < doneStops.size(); i++) {
                Stop done = doneStops.get(i);
                int needed = done.request.rider.seatsNeeded;
                if (done.isDrop) {
                    taken -= needed;
                } else if (done.request.state == ABOARD || done.request.state == SERVED) {
                    taken += needed;
                }
            }
            return taken;
        }

        // What changes its route.

        void putIn(Stop pick, int pickAt, Stop drop, int dropAt) {
            if (pickAt < 0 || pickAt > stops.size() || dropAt <= pickAt || dropAt > stops.size() + 1) {
                return;
            }
            stops.add(pickAt, pick);
            stops.add(dropAt, drop);
            pick.request.vehicleNumber = number;
        }

        void takeOutStopsOf(Request asked) {
            for (int i = stops.size() - 1; i >= 0; i--) {
                if (i < stops.size() && stops.get(i).request == asked) {
                    stops.remove(i);
                }
            }
        }

        /** Whether the stop at a place may be the next one: a drop stays behind its pick. */
        boolean mayComeNext(int from, int at) {
            if (at < 0 || at >= stops.size() || !stops.get(at).isDrop) {
                return true;
            }
            return placeOf(stops.get(at).request, false) < from;
        }

        void swapStops(int one, int other) {
            int size = stops.size();
            if (one < 0 || other < 0 || one >= size || other >= size) {
                return;
            }
            Stop kept = stops.get(one);
            stops.set(one, stops.get(other));
            stops.set(other, kept);
        }

        // What the minutes do to it.

        int holdUp(int minutes, int now) {
            if (hasLeft && !stops.isEmpty()) {
                stops.get(0).hold(minutes);
                return stops.get(0).ends;
            }
            free = Math.max(free, now) + minutes;
            return free;
        }

        void leaveIfDue(int now) {
            if (hasLeft || free > now || stops.isEmpty()) {
                return;
            }
            Stop first = stops.get(0);
            int way = STEP_MINUTES * steps(place, first.place);
            if (first.isDrop || first.request.promised - way <= now) {
                hasLeft = true;
                first.begins = now + way;
                first.ends = first.begins + first.request.rider.stopMinutes;
            }
        }

        void finishStop(int now) {
            if (!hasLeft || stops.isEmpty() || stops.get(0).ends != now) {
                return;
            }
            Stop first = stops.get(0);
            if (first.isDrop && first.isChairs() && !liftWorks && !first.waitedForLift) {
                first.waitedForLift = true;
                first.ends += LIFT_DELAY;
                return;
            }
            stops.remove(0);
            doneStops.add(first);
            hasLeft = false;
            place = first.place;
            free = now;
            if (first.isDrop) {
                dropIsDone(first);
            } else {
                pickIsDone(first);
            }
        }

        private void dropIsDone(Stop done) {
            done.request.dropBegan = done.begins;
            done.request.state = SERVED;
            for (int i = aboard.size() - 1; i >= 0; i--) {
                if (i < aboard.size() && aboard.get(i) == done.request) {
                    aboard.remove(i);
                }
            }
        }

        private void pickIsDone(Stop done) {
            Request picked = done.request;
            picked.pickBegan = done.begins;
            picked.pickEnded = done.ends;
            if (picked.riderIsAbsent) {
                picked.state = MISSED;
            } else if (done.isChairs() && !liftWorks) {
                picked.state = FAILED;
            } else {
                picked.state = ABOARD;
                aboard.add(picked);
                return;
            }
            takeOutStopsOf(picked);
        }
    }

    /** A walk along a route, stop by stop, ahead of time: where the vehicle would be, from when on, and with whom. */
    private static final class Plan {
        private final ArrayList<Request> chairs = new ArrayList<>();
        private int place;
        private int free;
        private int seatsTaken;

        void start(Vehicle planned, int now) {
            place = planned.place;
            free = Math.max(planned.free, now + 1);
            seatsTaken = planned.seatsTaken();
            chairs.clear();
            for (int i = 0; i < planned.aboard.size(); i++) {
                if (planned.aboard.get(i).rider.kind == CHAIR) {
                    chairs.add(planned.aboard.get(i));
                }
            }
        }

        void goTo(Stop stop, boolean hasLeft) {
            if (!hasLeft) {
                int way = STEP_MINUTES * steps(place, stop.place);
                int leaves = stop.isDrop ? free : Math.max(free, stop.request.promised - way);
                stop.begins = leaves + way;
                stop.ends = stop.begins + stop.request.rider.stopMinutes;
            }
            if (!stop.isDrop) {
                stop.request.pickEndsByPlan = stop.ends;
            }
            place = stop.place;
            free = stop.ends;
        }

        int backAt(int base) {
            return free + STEP_MINUTES * steps(place, base);
        }

        /** Whether seats and ties suffice behind a stop, and a chair leaves as the latest one that came aboard. */
        boolean canLoad(Stop stop, int seats, int ties) {
            int needed = stop.request.rider.seatsNeeded;
            seatsTaken += stop.isDrop ? -needed : needed;
            if (stop.isChairs()) {
                if (stop.isDrop) {
                    return latestChairLeaves(stop.request);
                }
                chairs.add(stop.request);
            }
            return seatsTaken <= seats && chairs.size() <= ties;
        }

        private boolean latestChairLeaves(Request leaving) {
            int latest = chairs.size() - 1;
            if (latest < 0 || chairs.get(latest) != leaving) {
                return false;
            }
            chairs.remove(latest);
            return true;
        }
    }

    /** The search for the route, and the places in it, by which a drive grows least. */
    private static final class Search {
        private Vehicle best;
        private int leastGrowth;
        private int pickAt;
        private int dropAt;

        /** Puts a pick and its drop where that counts, and answers whether it was possible at all. */
        boolean putBest(ArrayList<Vehicle> vehicles, Stop pick, Stop drop, int now) {
            best = null;
            for (int i = 0; i < vehicles.size(); i++) {
                tryRoute(vehicles.get(i), pick, drop, now);
            }
            if (best == null) {
                return false;
            }
            best.putIn(pick, pickAt, drop, dropAt);
            return true;
        }

        private void tryRoute(Vehicle tried, Stop pick, Stop drop, int now) {
            if (!tried.mayPut(pick.request.rider)) {
                return;
            }
            ArrayList<Stop> stops = tried.stops;
            int before = tried.driveMinutes();
            int size = stops.size();
            for (int i = tried.firstOpen(); i <= size; i++) {
                stops.add(i, pick);
                for (int j = i + 1; j <= size + 1; j++) {
                    stops.add(j, drop);
                    int growth = tried.driveMinutes() - before;
                    if ((best == null || growth < leastGrowth) && tried.isRight(now)) {
                        keep(tried, growth, i, j);
                    }
                    stops.remove(j);
                }
                stops.remove(i);
            }
        }

        private void keep(Vehicle found, int growth, int foundPick, int foundDrop) {
            best = found;
            leastGrowth = growth;
            pickAt = foundPick;
            dropAt = foundDrop;
        }
    }
}
