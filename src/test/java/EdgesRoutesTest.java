/** The boundary cases of "Requests, routes" and of the promises 7, 18 to 20, 22 and 23. */
public final class EdgesRoutesTest {
    private static final int NONE = DoorstepRides.NONE;
    private static final int PROMISED = DoorstepRides.PROMISED, DENIED = DoorstepRides.DENIED;
    private static final int NO_ROOM = DoorstepRides.NO_ROOM;
    private static final int[] AWAY = {0, 10, -10, 20, -20, 30, -30, 40, -40, 50, -50, 60, -60};

    private EdgesRoutesTest() {
    }

    public static void main(String[] args) {
        Checks.runAll(EdgesRoutesTest.class);
    }

    private static void holdUp(DoorstepRides x, int minutes) {
        for (int left = minutes; left > 0; left -= 60) {
            x.traffic(0, Math.min(60, left));
        }
    }

    private static int promisedFor(DoorstepRides x, int rider, int from, int to, int minute) {
        return x.requestOf(x.ask(rider, from, to, minute), 2);
    }

    /** Picks and drops of a route: 1 where a drop is. */
    private static void dueDrops(DoorstepRides x, int... drops) {
        for (int i = 0; i < drops.length; i++) {
            Checks.due("whether the stop " + i + " is a drop", x.stopOf(0, i, 1), drops[i]);
        }
    }

    // ---- requests

    private static void minutesOfADay() {
        DoorstepRides x = Checks.town(8, 3);
        Checks.due("0", x.ask(0, 0, 1, 0), 0);
        Checks.due("600", x.ask(0, 0, 1, 600), 1);
        Checks.due("0 is tried from 10 on", x.requestOf(0, 2), 10);
        Checks.due("600 is tried down to 590", x.requestOf(1, 2), 590);
        Checks.refused("-1", Checks.ARGUMENT, () -> x.ask(0, 0, 1, -1));
        Checks.refused("601", Checks.ARGUMENT, () -> x.ask(0, 0, 1, 601));
    }

    private static void firstAndLastRiderAndPlaces() {
        DoorstepRides x = new DoorstepRides();
        x.vehicle(0, 8, 3, 400);
        for (int i = 0; i < 16; i++) {
            x.rider(0, 70, 5, false);
        }
        Checks.due("rider 0, from 0 to 35", x.ask(0, 0, 35, 100), 0);
        Checks.due("rider 15, from 35 to 0", x.ask(15, 35, 0, 200), 1);
        Checks.due("promised", x.count(PROMISED), 2);
    }

    /** Those that are denied or cancelled, and those of other days, are requests too. */
    private static void sixtyRequests() {
        DoorstepRides x = Checks.town(8, 0);
        for (int i = 0; i < 60; i++) {
            int kind = i % 3;
            Checks.due("its number", x.ask(kind, 0, 1, 200), i);
            Checks.due("denied", x.requestOf(i, 0), kind == 2 ? DENIED : PROMISED);
            if (kind == 1) {
                x.cancel(i);
            }
            if (i % 20 == 19) {
                x.end();
            }
        }
        Checks.refused("a 61st", Checks.STATE, () -> x.ask(0, 0, 1, 200));
        Checks.due("the last one's day", x.requestOf(59, 9), 2);
        Checks.refused("is not there", Checks.INDEX, () -> x.requestOf(60, 0));
        x.end();
        Checks.refused("a 61st on another day", Checks.STATE, () -> x.ask(0, 0, 1, 200));
    }

    // ---- at most 16 stops

    private static DoorstepRides eightRides() {
        DoorstepRides x = Checks.town(8, 0);
        for (int i = 0; i < 8; i++) {
            Checks.due("promised", promisedFor(x, 0, 0, 1, 40 + 60 * i), 40 + 60 * i);
        }
        return x;
    }

    private static void sixteenStopsNotEighteen() {
        DoorstepRides x = eightRides();
        Checks.due("16 stops", x.vehicleOf(0, 2), 16);
        Checks.due("right", x.vehicleOf(0, 8), 1);
        Checks.due("no more", x.requestOf(x.ask(0, 0, 1, 520), 1), NO_ROOM);
        x.cancel(7);
        Checks.due("14 stops", x.vehicleOf(0, 2), 14);
        Checks.due("16 again", promisedFor(x, 0, 0, 1, 520), 520);
    }

    private static void sixteenStopsNotSeventeen() {
        DoorstepRides x = eightRides();
        x.pass(42);
        Checks.due("15 stops", x.vehicleOf(0, 2), 15);
        Checks.due("no more", x.requestOf(x.ask(0, 0, 1, 520), 1), NO_ROOM);
        x.pass(4);
        Checks.due("14 stops", x.vehicleOf(0, 2), 14);
        Checks.due("16 again", promisedFor(x, 0, 0, 1, 520), 520);
    }

    private static void sixteenStopsWithTheOneLeftFor() {
        DoorstepRides x = eightRides();
        x.pass(40);
        Checks.due("left", x.vehicleOf(0, 5), 1);
        Checks.due("it is an open stop", x.vehicleOf(0, 2), 16);
        Checks.due("no more", x.requestOf(x.ask(0, 0, 1, 520), 1), NO_ROOM);
    }

    private static void stopsOfAFullRoute() {
        DoorstepRides x = eightRides();
        for (int i = 0; i < 16; i++) {
            Checks.due("request", x.stopOf(0, i, 0), i / 2);
            Checks.due("drop", x.stopOf(0, i, 1), i % 2);
        }
        Checks.refused("no 17th", Checks.INDEX, () -> x.stopOf(0, 16, 0));
    }

    // ---- the minutes that are tried

    /** The vehicle is free so late that only minutes from there less 20 on are possible. */
    private static void triesUpToMAnd60() {
        for (int free = 100; free <= 190; free++) {
            DoorstepRides x = Checks.town(1, 0);
            holdUp(x, free);
            int due = NONE;
            for (int minute = 160; minute >= 100; minute -= 10) {
                due = free - 20 <= minute ? minute : due;
            }
            Checks.due("free at " + free, promisedFor(x, 0, 0, 1, 100), due);
            Checks.due("why", x.requestOf(0, 1), free <= 180 ? 0 : NO_ROOM);
        }
    }

    /** The last ride of the day has to begin at 588; a chair's ride takes 52 minutes: by 536 it has to begin. */
    private static void triesDownToMLess60() {
        for (int minute = 530; minute <= 600; minute++) {
            DoorstepRides x = Checks.town(2, 1);
            Checks.due("the last ride", promisedFor(x, 1, 0, 1, 588), 588);
            int due = NONE;
            for (int away = 60; away >= 0; away -= 10) {
                due = minute - away <= 536 ? minute - away : due;
            }
            Checks.due("asked for " + minute, promisedFor(x, 2, 0, 35, minute), due);
            Checks.due("why", x.requestOf(1, 1), minute <= 596 ? 0 : NO_ROOM);
        }
    }

    /** One seat is taken by so many rides one behind the other, from 100 on: what is left is asked for. */
    private static void dueInTurn(int to, int drive, int rides) {
        int ride = 2 * drive + 4;
        int lastAhead = 120 - ride;
        int firstBehind = 100 + rides * ride - 20;
        for (int minute = 61; minute <= 240; minute++) {
            DoorstepRides x = Checks.town(1, 0);
            for (int i = 0; i < rides; i++) {
                Checks.due("taken", promisedFor(x, 0, 0, to, 100 + i * ride), 100 + i * ride);
            }
            int due = NONE;
            for (int i = AWAY.length - 1; i >= 0; i--) {
                int tried = minute + AWAY[i];
                due = tried <= lastAhead || tried >= firstBehind ? tried : due;
            }
            Checks.due(rides + " rides, asked for " + minute, promisedFor(x, 0, 0, to, minute), due);
        }
    }

    /** Of two minutes that are as far away the later one, and either of them ahead of those that are farther away. */
    private static void triesInTurn() {
        dueInTurn(5, 10, 1);
        for (int rides = 1; rides <= 3; rides++) {
            dueInTurn(35, 20, rides);
        }
    }

    private static void triesBehindNowAlone() {
        for (int now = 1; now <= 120; now++) {
            for (int minute = Math.max(0, now - 62); minute <= now + 1; minute += minute < now - 57 ? 1 : 3) {
                DoorstepRides x = Checks.town(1, 0);
                x.pass(now);
                int due = NONE;
                for (int i = AWAY.length - 1; i >= 0; i--) {
                    due = minute + AWAY[i] > now ? minute + AWAY[i] : due;
                }
                Checks.due("at " + now + " for " + minute, promisedFor(x, 0, 0, 1, minute), due);
            }
        }
    }

    private static void triesNowAndTheNextMinute() {
        DoorstepRides x = Checks.town(1, 0);
        x.pass(70);
        Checks.due("70 is not behind 70", promisedFor(x, 0, 0, 1, 70), 80);
        x.cancel(0);
        Checks.due("71 is", promisedFor(x, 0, 0, 1, 71), 71);
        x.cancel(1);
        Checks.due("11 and 60 is", promisedFor(x, 1, 0, 1, 11), 71);
        x.cancel(2);
        Checks.due("10 and 60 is not", x.requestOf(x.ask(1, 0, 1, 10), 1), NO_ROOM);
        DoorstepRides y = Checks.town(1, 0);
        Checks.due("0 is not behind 0", promisedFor(y, 0, 0, 1, 0), 10);
        y.cancel(0);
        Checks.due("1 is", promisedFor(y, 0, 0, 1, 1), 1);
    }

    /** The last minute of all: a step from the base, and to it, which takes 6 minutes. */
    private static void triesTheLastMinuteThatIsPossible() {
        int[][] due = {{594, 594}, {595, 585}, {600, 590}};
        for (int[] pair : due) {
            DoorstepRides x = Checks.town(1, 0);
            Checks.due("asked for " + pair[0], promisedFor(x, 0, 1, 0, pair[0]), pair[1]);
        }
        DoorstepRides y = Checks.town(1, 0);
        y.ask(0, 1, 0, 594);
        Checks.due("back", y.vehicleOf(0, 7), 600);
    }

    /** At the end of the day there is nothing left to be tried, or nothing that would be back at 600. */
    private static void triesAtTheEndOfTheDay() {
        DoorstepRides x = Checks.town(1, 0);
        for (int i = 0; i < 4; i++) {
            x.pass(120);
        }
        x.pass(111);
        Checks.due("592 is behind 591", promisedFor(x, 0, 0, 1, 592), 592);
        x.cancel(0);
        x.pass(1);
        Checks.due("592 is not behind 592", x.requestOf(x.ask(0, 0, 1, 592), 1), NO_ROOM);
        x.pass(8);
        Checks.due("at 600 none is left", x.requestOf(x.ask(1, 0, 1, 600), 1), NO_ROOM);
    }

    // ---- the plan

    private static void freeFromZeroOnWhateverTheMinute() {
        DoorstepRides x = new DoorstepRides();
        x.rider(0, 70, 5, false);
        x.vehicle(0, 8, 3, 400);
        Checks.due("told at 0", x.vehicleOf(0, 1), 0);
        x.pass(77);
        x.vehicle(14, 8, 3, 400);
        Checks.due("told at 77", x.vehicleOf(1, 1), 0);
        Checks.due("at its base", x.vehicleOf(1, 0), 14);
        x.ask(0, 14, 15, 78);
        Checks.due("leaves at 78", x.stopOf(1, 0, 2), 78);
    }

    /** The place 5 is 10 minutes away: asked for at 0, it leaves at 1, or at the promised minute less 10. */
    private static void leavesInTheNextMinuteAtTheEarliest() {
        int[][] due = {{1, 11}, {10, 11}, {11, 11}, {12, 12}, {13, 13}};
        for (int[] pair : due) {
            DoorstepRides x = Checks.town(8, 3);
            Checks.due("promised", promisedFor(x, 0, 5, 4, pair[0]), pair[0]);
            Checks.due("asked for " + pair[0] + ", begins", x.stopOf(0, 0, 2), pair[1]);
            DoorstepRides y = Checks.town(8, 3);
            y.pass(60);
            Checks.due("promised at 60", promisedFor(y, 0, 5, 4, 60 + pair[0]), 60 + pair[0]);
            Checks.due("asked at 60, begins", y.stopOf(0, 0, 2), 60 + pair[1]);
        }
    }

    private static void leavesWhenItIsFreeAtTheEarliest() {
        int[][] due = {{89, 100}, {90, 100}, {91, 101}, {110, 120}};
        for (int[] pair : due) {
            DoorstepRides x = Checks.town(8, 3);
            holdUp(x, pair[0]);
            Checks.due("promised", promisedFor(x, 0, 5, 4, 100), 100);
            Checks.due("free at " + pair[0] + ", begins", x.stopOf(0, 0, 2), pair[1]);
        }
        int[] soon = {0, 1, 2};
        for (int free : soon) {
            DoorstepRides x = Checks.town(8, 3);
            holdUp(x, free);
            x.ask(0, 0, 1, 1);
            Checks.due("free at " + free + ", the next minute is 1", x.stopOf(0, 0, 2), Math.max(1, free));
        }
    }

    /** The second pick is at the place where the first drop ends at 106. */
    private static void leavesWhenItIsDoneWithTheOneAhead() {
        int[][] due = {{100, 106}, {105, 106}, {106, 106}, {107, 107}};
        for (int[] pair : due) {
            DoorstepRides x = Checks.town(1, 0);
            x.ask(0, 0, 1, 100);
            Checks.due("promised", promisedFor(x, 0, 1, 7, pair[0]), pair[0]);
            Checks.dueRoute(x, 0, 0, 0, 1, 1);
            Checks.due("asked for " + pair[0] + ", begins", x.stopOf(0, 2, 2), pair[1]);
        }
    }

    private static void minutesOfAStop() {
        int[] minutes = {2, 4, 6};
        for (int kind = 0; kind <= 2; kind++) {
            DoorstepRides x = Checks.town(8, 3);
            x.ask(kind, 0, 1, 50);
            Checks.due("pick", x.stopOf(0, 0, 3) - x.stopOf(0, 0, 2), minutes[kind]);
            Checks.due("drop", x.stopOf(0, 1, 3) - x.stopOf(0, 1, 2), minutes[kind]);
            Checks.due("back", x.vehicleOf(0, 7), 50 + 2 * minutes[kind] + 4);
        }
    }

    /** It leaves for the place 5 at 10: what is put in at 9 may be ahead of that, what is put in at 10 may not. */
    private static void nothingAheadOfTheStopLeftFor() {
        DoorstepRides x = Checks.town(8, 0);
        x.ask(0, 5, 11, 20);
        x.pass(9);
        Checks.due("at 9", promisedFor(x, 0, 0, 1, 12), 12);
        Checks.dueRoute(x, 0, 1, 1, 0, 0);
        DoorstepRides y = Checks.town(8, 0);
        y.ask(0, 5, 11, 20);
        y.pass(10);
        Checks.due("at 10", promisedFor(y, 0, 0, 1, 12), 22);
        Checks.dueRoute(y, 0, 0, 0, 1, 1);
        Checks.due("its minutes stay", y.stopOf(0, 0, 2), 20);
    }

    /** Right behind the stop that it has left for there may be both a pick and a drop. */
    private static void firstPlacesBehindTheStopLeftFor() {
        DoorstepRides x = Checks.town(8, 0);
        x.ask(0, 1, 5, 20);
        x.pass(18);
        Checks.due("left", x.vehicleOf(0, 5), 1);
        x.ask(0, 1, 2, 22);
        Checks.dueRoute(x, 0, 0, 1, 1, 0);
        dueDrops(x, 0, 0, 1, 1);
    }

    // ---- right routes

    private static void pickTwentyMinutesBehindThePromisedMinute() {
        DoorstepRides x = Checks.town(1, 0);
        Checks.due("20 minutes away, leaves at 1", promisedFor(x, 0, 35, 34, 1), 1);
        Checks.due("begins 20 behind", x.stopOf(0, 0, 2), 21);
        DoorstepRides y = Checks.town(1, 0);
        holdUp(y, 2);
        Checks.due("it would begin 21 behind", promisedFor(y, 0, 35, 34, 1), 11);
        DoorstepRides z = Checks.town(8, 3);
        z.ask(0, 0, 1, 50);
        holdUp(z, 70);
        Checks.due("20 behind is right", z.vehicleOf(0, 8), 1);
        z.traffic(0, 1);
        Checks.due("21 behind is not", z.vehicleOf(0, 8), 0);
    }

    /** Picked up at 100 for 5, 10 minutes away: by 132 the drop has to begin, with another pick on the way. */
    private static void dropTenMinutesAndTwiceTheDriveBehindThePick() {
        DoorstepRides x = Checks.town(8, 0);
        x.ask(0, 0, 5, 100);
        Checks.due("promised", promisedFor(x, 0, 4, 5, 128), 128);
        Checks.dueRoute(x, 0, 0, 1, 0, 1);
        Checks.due("begins 30 behind", x.stopOf(0, 2, 2), 132);
        DoorstepRides y = Checks.town(8, 0);
        y.ask(0, 0, 5, 100);
        Checks.due("promised", promisedFor(y, 0, 4, 5, 129), 129);
        Checks.dueRoute(y, 0, 0, 0, 1, 1);
    }

    /** For each kind and some drives: held up to the last minute it is right, a minute more and it is not. */
    private static void dropOfOneAboardInTime() {
        int[] minutes = {2, 4, 6};
        int[] places = {1, 2, 7, 35};
        for (int kind = 0; kind <= 2; kind++) {
            for (int to : places) {
                DoorstepRides x = Checks.town(8, 3);
                x.ask(kind, 0, to, 50);
                int drive = x.drive(0) / 2;
                x.pass(50 + minutes[kind]);
                Checks.due("aboard", x.requestOf(0, 0), DoorstepRides.ABOARD);
                x.traffic(0, 10 + drive);
                Checks.due("begins just in time", x.stopOf(0, 0, 2), 50 + minutes[kind] + 10 + 2 * drive);
                Checks.due("right", x.vehicleOf(0, 8), 1);
                x.traffic(0, 1);
                Checks.due("a minute too late", x.vehicleOf(0, 8), 0);
            }
        }
    }

    /** With two seats the second one comes aboard ahead of the first one's drop; with one seat, behind it. */
    private static void seatsAtAllTimes() {
        DoorstepRides x = Checks.town(2, 0);
        x.ask(0, 0, 5, 100);
        Checks.due("promised", promisedFor(x, 0, 5, 0, 114), 114);
        Checks.dueRoute(x, 0, 0, 1, 0, 1);
        DoorstepRides y = Checks.town(1, 0);
        y.ask(0, 0, 5, 100);
        Checks.due("promised", promisedFor(y, 0, 5, 0, 114), 114);
        Checks.dueRoute(y, 0, 0, 0, 1, 1);
    }

    /** One is aboard, the next one about to be: a third seat is taken on the way, or else behind both drops. */
    private static void seatsOfThoseAboard() {
        for (int seats = 2; seats <= 3; seats++) {
            DoorstepRides x = Checks.town(seats, 0);
            x.ask(0, 0, 5, 100);
            x.ask(0, 0, 5, 100);
            x.pass(102);
            Checks.due("aboard", x.vehicleOf(0, 3), 1);
            Checks.due("promised", promisedFor(x, 0, 1, 4, 110), 110);
            if (seats == 2) {
                Checks.dueRoute(x, 0, 0, 1, 0, 2, 2);
            } else {
                Checks.dueRoute(x, 0, 0, 2, 2, 1, 0);
            }
        }
    }

    /** From 0 to 1 and back takes 8, 12 and 16 minutes. */
    private static void backAtSixHundredOrEarlier() {
        int[] minutes = {8, 12, 16};
        for (int kind = 0; kind <= 2; kind++) {
            int last = 600 - minutes[kind];
            DoorstepRides x = Checks.town(8, 3);
            Checks.due("back at 600", promisedFor(x, kind, 0, 1, last), last);
            Checks.due("told", x.vehicleOf(0, 7), 600);
            Checks.due("right", x.vehicleOf(0, 8), 1);
            DoorstepRides y = Checks.town(8, 3);
            Checks.due("back at 601", promisedFor(y, kind, 0, 1, last + 1), last - 9);
            DoorstepRides z = Checks.town(8, 3);
            z.ask(kind, 0, 1, last);
            holdUp(z, last);
            Checks.due("free just in time", z.vehicleOf(0, 8), 1);
            z.traffic(0, 1);
            Checks.due("back at 601", z.vehicleOf(0, 7), 601);
            Checks.due("is not right", z.vehicleOf(0, 8), 0);
        }
    }

    private static void routeWithoutStopsIsRight() {
        DoorstepRides x = Checks.town(8, 3);
        Checks.due("at 0", x.vehicleOf(0, 8), 1);
        Checks.due("never back", x.vehicleOf(0, 7), NONE);
        x.ask(0, 0, 35, 10);
        x.pass(34);
        Checks.due("away from its base", x.vehicleOf(0, 0), 35);
        holdUp(x, 620);
        Checks.due("free behind 600", x.vehicleOf(0, 1), 654);
        Checks.due("right all the same", x.vehicleOf(0, 8), 1);
        Checks.due("without a minute", x.vehicleOf(0, 7), NONE);
        for (int i = 0; i < 4; i++) {
            x.pass(120);
        }
        x.pass(86);
        Checks.due("at 600", x.vehicleOf(0, 8), 1);
        Checks.due("its least drive", x.leastDrive(0), 20);
    }

    // ---- which of all that are possible

    private static void growsLeastAndTheLowestVehicle() {
        DoorstepRides x = Checks.town(8, 0);
        x.vehicle(1, 8, 0, 400);
        Checks.due("as much for both", x.requestOf(x.ask(0, 0, 1, 100), 3), 0);
        DoorstepRides y = Checks.town(8, 0);
        y.vehicle(1, 8, 0, 400);
        Checks.due("4 less for the second", y.requestOf(y.ask(0, 1, 2, 100), 3), 1);
        DoorstepRides z = new DoorstepRides();
        z.rider(0, 70, 5, false);
        for (int i = 0; i < 4; i++) {
            z.vehicle(7, 1, 0, 400);
        }
        for (int i = 0; i < 4; i++) {
            Checks.due("the lowest that has room", z.requestOf(z.ask(0, 7, 35, 100), 3), i);
        }
    }

    /** It is the growth that counts, not the drive: that of the vehicle 1 is less, but grows more. */
    private static void growthNotDrive() {
        DoorstepRides x = Checks.town(8, 0);
        x.vehicle(1, 8, 0, 400);
        x.ask(0, 0, 5, 100);
        Checks.due("drive", x.drive(0), 20);
        Checks.due("the way that is driven already", x.requestOf(x.ask(0, 1, 2, 102), 3), 0);
        Checks.due("has not grown", x.drive(0), 20);
    }

    // ---- promises 18 to 20: what is told first and last

    private static void whatFirstAndLast() {
        DoorstepRides x = Checks.town(8, 3);
        x.ask(2, 0, 1, 50);
        Checks.due("requestOf 0", x.requestOf(0, 0), PROMISED);
        Checks.due("requestOf 10", x.requestOf(0, 10), 0);
        Checks.due("vehicleOf 0", x.vehicleOf(0, 0), 0);
        Checks.due("vehicleOf 8", x.vehicleOf(0, 8), 1);
        Checks.due("stopOf 0", x.stopOf(0, 0, 0), 0);
        Checks.due("stopOf 3", x.stopOf(0, 1, 3), 64);
        Checks.due("riderOf 0", x.riderOf(2, 0), 1);
        Checks.due("riderOf 2", x.riderOf(2, 2), 0);
    }

    private static void deniedHasNoMinuteAndNoVehicle() {
        DoorstepRides x = Checks.town(1, 0);
        x.ask(2, 0, 1, 50);
        int[] due = {DENIED, NO_ROOM, NONE, NONE, NONE, NONE, NONE, 0, 0, 0, 0};
        for (int what = 0; what <= 10; what++) {
            Checks.due("requestOf " + what, x.requestOf(0, what), due[what]);
        }
    }

    /** The pick of a request is done at 22, its drop at 34: a minute ahead of each there is no minute to tell. */
    private static void minutesOfWhatIsDoneAlone() {
        DoorstepRides x = Checks.town(8, 3);
        x.ask(0, 5, 7, 20);
        int[][] due = {{21, NONE, NONE, NONE}, {22, 20, 22, NONE}, {33, 20, 22, NONE}, {34, 20, 22, 32}};
        for (int[] at : due) {
            x.pass(at[0] - x.now());
            for (int i = 1; i < at.length; i++) {
                Checks.due("at " + at[0] + " requestOf " + (3 + i), x.requestOf(0, 3 + i), at[i]);
            }
        }
    }

    private static void freeWhileItHasLeft() {
        DoorstepRides x = Checks.town(8, 3);
        x.ask(0, 5, 7, 20);
        holdUp(x, 3);
        x.pass(10);
        Checks.due("left", x.vehicleOf(0, 5), 1);
        Checks.due("free last from 3 on", x.vehicleOf(0, 1), 3);
        x.traffic(0, 9);
        Checks.due("traffic does not count there", x.vehicleOf(0, 1), 3);
        x.pass(21);
        Checks.due("free from 31 on", x.vehicleOf(0, 1), 31);
        Checks.due("left again", x.vehicleOf(0, 5), 1);
    }

    // ---- promises 22 and 23

    private static void driveOfAnEmptyRoute() {
        DoorstepRides x = Checks.town(8, 3);
        Checks.due("at its base", x.drive(0), 0);
        Checks.due("the least", x.leastDrive(0), 0);
        x.ask(0, 0, 35, 10);
        x.pass(34);
        Checks.due("away from it", x.drive(0), 20);
        Checks.due("the least", x.leastDrive(0), 20);
        x.end();
        Checks.due("at its base again", x.drive(0), 0);
    }

    private static void driveFromWhereItLeft() {
        DoorstepRides x = Checks.town(8, 3);
        x.ask(0, 5, 35, 100);
        x.pass(90);
        int[][] due = {{90, 40}, {101, 40}, {102, 30}, {113, 30}, {114, 20}};
        for (int[] at : due) {
            if (at[0] > x.now()) {
                x.pass(at[0] - x.now());
            }
            Checks.due("at " + at[0], x.drive(0), at[1]);
        }
    }

    private static void sixStopsNotSeven() {
        DoorstepRides x = Checks.town(8, 3);
        int[] minutes = {100, 112, 106};
        for (int minute : minutes) {
            x.ask(0, 0, 1, minute);
        }
        Checks.due("six", x.vehicleOf(0, 2), 6);
        Checks.due("the least of six", x.leastDrive(0), 4);
        x.ask(0, 0, 1, 300);
        Checks.due("eight", x.leastDrive(0), NONE);
        x.pass(x.stopOf(0, 0, 3));
        Checks.due("seven", x.vehicleOf(0, 2), 7);
        Checks.due("the least of seven", x.leastDrive(0), NONE);
        x.cancel(3);
        Checks.due("five", x.vehicleOf(0, 2), 5);
        Checks.due("the least of five", x.leastDrive(0), 4);
    }

    /** Each of them was put where the drive grew least: the second one ahead of the first is better for all three. */
    private static void leastDriveOfAllOrders() {
        DoorstepRides x = Checks.town(8, 0);
        x.ask(0, 3, 5, 103);
        x.ask(0, 1, 0, 108);
        x.ask(0, 4, 0, 125);
        Checks.dueRoute(x, 0, 0, 0, 1, 1, 2, 2);
        Checks.due("its drive", x.drive(0), 36);
        Checks.due("the least", x.leastDrive(0), 24);
        Checks.dueRoute(x, 0, 0, 0, 1, 1, 2, 2);
    }

    /** The pick is free to be as late as 120; at 121 no route is right. */
    private static void leastDriveNoneIsRight() {
        DoorstepRides x = Checks.town(8, 3);
        x.ask(0, 5, 0, 100);
        holdUp(x, 110);
        Checks.due("20 behind", x.leastDrive(0), 20);
        x.traffic(0, 1);
        Checks.due("21 behind", x.leastDrive(0), NONE);
        Checks.due("its drive is told all the same", x.drive(0), 20);
    }

    private static void leastDriveLeftForFirst() {
        DoorstepRides x = Checks.town(8, 3);
        x.ask(0, 2, 3, 30);
        x.pass(26);
        Checks.due("left for 2", x.vehicleOf(0, 5), 1);
        x.ask(0, 1, 3, 33);
        Checks.due("stays first", x.leastDrive(0), 4 + 2 + 4 + 6);
        DoorstepRides y = Checks.town(8, 3);
        y.ask(0, 2, 3, 30);
        y.pass(25);
        y.ask(0, 1, 3, 33);
        Checks.due("not left: 1 ahead of 2", y.leastDrive(0), 12);
    }
}
