/** The boundary cases of "The day" and of the promises 8 to 15 and 21. */
public final class EdgesDayTest {
    private static final int NONE = DoorstepRides.NONE;
    private static final int PROMISED = DoorstepRides.PROMISED, ABOARD = DoorstepRides.ABOARD;
    private static final int SERVED = DoorstepRides.SERVED, MISSED = DoorstepRides.MISSED;
    private static final int FAILED = DoorstepRides.FAILED;

    private EdgesDayTest() {
    }

    public static void main(String[] args) {
        Checks.runAll(EdgesDayTest.class);
    }

    private static void holdUp(DoorstepRides x, int vehicle, int minutes) {
        for (int left = minutes; left > 0; left -= 60) {
            x.traffic(vehicle, Math.min(60, left));
        }
    }

    private static void passTo(DoorstepRides x, int minute) {
        while (x.now() < minute) {
            x.pass(Math.min(120, minute - x.now()));
        }
    }

    /** A ride of such a kind from 0 to 1 at 100, and the minute is such a one. */
    private static DoorstepRides rideAt100(int kind, int minute) {
        DoorstepRides x = Checks.town(8, 3);
        x.ask(kind, 0, 1, 100);
        passTo(x, minute);
        return x;
    }

    // ---- minutes that pass

    private static void passOneAndOneHundredAndTwenty() {
        DoorstepRides x = new DoorstepRides();
        Checks.due("1", x.pass(1), 1);
        Checks.due("120", x.pass(120), 121);
        Checks.due("told", x.now(), 121);
        Checks.refused("0", Checks.ARGUMENT, () -> x.pass(0));
        Checks.refused("121", Checks.ARGUMENT, () -> x.pass(121));
    }

    private static void passToSixHundred() {
        DoorstepRides x = new DoorstepRides();
        passTo(x, 480);
        Checks.due("480 and 120", x.pass(120), 600);
        DoorstepRides y = new DoorstepRides();
        passTo(y, 481);
        Checks.refused("481 and 120", Checks.STATE, () -> y.pass(120));
        Checks.due("481 and 119", y.pass(119), 600);
        DoorstepRides z = new DoorstepRides();
        passTo(z, 599);
        Checks.refused("599 and 2", Checks.STATE, () -> z.pass(2));
        Checks.due("599 and 1", z.pass(1), 600);
        Checks.refused("600 and 1", Checks.STATE, () -> z.pass(1));
    }

    /** What two minutes do is the same one by one and at once. */
    private static void minutesOneByOneAndAtOnce() {
        DoorstepRides x = Checks.town(8, 3);
        DoorstepRides y = Checks.town(8, 3);
        for (int minute = 10; minute < 120; minute += 17) {
            x.ask(minute % 3, 0, minute % 7 + 1, minute);
            y.ask(minute % 3, 0, minute % 7 + 1, minute);
        }
        x.pass(120);
        for (int i = 0; i < 120; i++) {
            y.pass(1);
        }
        for (int what = 0; what <= 8; what++) {
            Checks.due("vehicleOf " + what, y.vehicleOf(0, what), x.vehicleOf(0, what));
        }
        Checks.due("served", y.count(SERVED), x.count(SERVED));
    }

    // ---- leaving

    private static void leavesAtThePromisedMinuteLessTheDrive() {
        DoorstepRides x = Checks.town(8, 3);
        x.ask(0, 5, 7, 20);
        x.pass(9);
        Checks.due("at 9", x.vehicleOf(0, 5), 0);
        x.pass(1);
        Checks.due("at 10", x.vehicleOf(0, 5), 1);
        Checks.due("to be there at 20", x.stopOf(0, 0, 2), 20);
        DoorstepRides y = Checks.town(8, 3);
        y.ask(0, 0, 1, 20);
        y.pass(19);
        Checks.due("at 19", y.vehicleOf(0, 5), 0);
        y.pass(1);
        Checks.due("at 20, where it is", y.vehicleOf(0, 5), 1);
    }

    private static void leavesWhenItIsFree() {
        DoorstepRides x = Checks.town(8, 3);
        x.ask(0, 0, 1, 20);
        holdUp(x, 0, 30);
        x.pass(29);
        Checks.due("at 29", x.vehicleOf(0, 5), 0);
        x.pass(1);
        Checks.due("at 30", x.vehicleOf(0, 5), 1);
        Checks.due("begins", x.stopOf(0, 0, 2), 30);
    }

    private static void leavesForADropAtOnce() {
        DoorstepRides x = rideAt100(0, 101);
        Checks.due("at 101 for the pick", x.stopOf(0, 0, 1), 0);
        x.pass(1);
        Checks.due("at 102 left", x.vehicleOf(0, 5), 1);
        Checks.due("for the drop", x.stopOf(0, 0, 1), 1);
        Checks.due("to be there at 104", x.stopOf(0, 0, 2), 104);
    }

    /** In the minute in which the one drop is done it leaves for the next pick, if that is due then, or later. */
    private static void leavesForTheNextPickWhenItIsDue() {
        int[][] due = {{106, 1}, {107, 0}};
        for (int[] pair : due) {
            DoorstepRides x = Checks.town(1, 0);
            x.ask(0, 0, 1, 100);
            x.ask(0, 1, 2, pair[0]);
            passTo(x, 106);
            Checks.due("served at 106", x.requestOf(0, 0), SERVED);
            Checks.due("asked for " + pair[0] + ", left at 106", x.vehicleOf(0, 5), pair[1]);
            x.pass(1);
            Checks.due("left at 107", x.vehicleOf(0, 5), 1);
        }
    }

    // ---- what is done

    private static void picksAndDropsEndByTheMinute() {
        int[] minutes = {2, 4, 6};
        for (int kind = 0; kind <= 2; kind++) {
            int picked = 100 + minutes[kind];
            int dropped = picked + 2 + minutes[kind];
            Checks.due("not aboard", rideAt100(kind, picked - 1).requestOf(0, 0), PROMISED);
            Checks.due("still where it was", rideAt100(kind, picked - 1).vehicleOf(0, 2), 2);
            Checks.due("aboard", rideAt100(kind, picked).requestOf(0, 0), ABOARD);
            Checks.due("not served", rideAt100(kind, dropped - 1).requestOf(0, 0), ABOARD);
            Checks.due("not there", rideAt100(kind, dropped - 1).vehicleOf(0, 0), 0);
            Checks.due("served", rideAt100(kind, dropped).requestOf(0, 0), SERVED);
            Checks.due("there", rideAt100(kind, dropped).vehicleOf(0, 0), 1);
            Checks.due("free", rideAt100(kind, dropped).vehicleOf(0, 1), dropped);
        }
    }

    private static void absentUpToTheLastMinute() {
        DoorstepRides x = rideAt100(0, 101);
        x.absent(0);
        Checks.due("promised still", x.requestOf(0, 0), PROMISED);
        x.pass(1);
        Checks.due("missed", x.requestOf(0, 0), MISSED);
        Checks.due("its drop is taken out", x.vehicleOf(0, 2), 0);
        Checks.due("no seat is taken", x.vehicleOf(0, 3), 0);
        Checks.due("free", x.vehicleOf(0, 1), 102);
        DoorstepRides y = rideAt100(0, 102);
        Checks.refused("aboard", Checks.STATE, () -> y.absent(0));
        DoorstepRides z = rideAt100(0, 0);
        z.absent(0);
        z.absent(0);
        passTo(z, 102);
        Checks.due("told twice, missed once", z.count(9), 1);
    }

    private static void liftBrokenWhenThePickEnds() {
        DoorstepRides x = rideAt100(2, 105);
        x.lift(0, false);
        x.pass(1);
        Checks.due("broken in the last minute", x.requestOf(0, 0), FAILED);
        Checks.due("its drop is taken out", x.vehicleOf(0, 2), 0);
        Checks.due("no seat is taken", x.vehicleOf(0, 3), 0);
        Checks.due("no seat anew", x.seatsAnew(0), 0);
        DoorstepRides y = rideAt100(2, 90);
        y.lift(0, false);
        passTo(y, 105);
        y.lift(0, true);
        y.pass(1);
        Checks.due("mended in the last minute", y.requestOf(0, 0), ABOARD);
        DoorstepRides z = rideAt100(2, 106);
        z.lift(0, false);
        Checks.due("broken behind it", z.requestOf(0, 0), ABOARD);
    }

    private static void liftBrokenForOthersThanChairs() {
        for (int kind = 0; kind <= 1; kind++) {
            DoorstepRides x = rideAt100(kind, 90);
            x.lift(0, false);
            passTo(x, 103 + 4 * kind);
            Checks.due("aboard", x.requestOf(0, 0), ABOARD);
            passTo(x, 106 + 4 * kind);
            Checks.due("served", x.requestOf(0, 0), SERVED);
        }
    }

    private static void missedAheadOfFailed() {
        DoorstepRides x = rideAt100(2, 0);
        x.absent(0);
        x.lift(0, false);
        passTo(x, 106);
        Checks.due("missed", x.requestOf(0, 0), MISSED);
        DoorstepRides y = rideAt100(2, 0);
        y.absent(0);
        passTo(y, 106);
        Checks.due("missed with a lift that works", y.requestOf(0, 0), MISSED);
    }

    /** By the plan it would be done at 114. */
    private static void liftBrokenWhenTheDropEnds() {
        DoorstepRides x = rideAt100(2, 113);
        x.lift(0, false);
        Checks.due("by the plan", x.stopOf(0, 0, 3), 114);
        x.pass(1);
        Checks.due("30 minutes later", x.stopOf(0, 0, 3), 144);
        Checks.due("its begin stays", x.stopOf(0, 0, 2), 108);
        passTo(x, 143);
        Checks.due("at 143", x.requestOf(0, 0), ABOARD);
        x.pass(1);
        Checks.due("at 144, once", x.requestOf(0, 0), SERVED);
        Checks.due("its drop began", x.requestOf(0, 6), 108);
        DoorstepRides y = rideAt100(2, 106);
        y.lift(0, false);
        passTo(y, 113);
        y.lift(0, true);
        y.pass(1);
        Checks.due("mended in the last minute", y.requestOf(0, 0), SERVED);
    }

    private static void liftMendedInTheThirtyMinutes() {
        DoorstepRides x = rideAt100(2, 113);
        x.lift(0, false);
        x.pass(1);
        x.lift(0, true);
        passTo(x, 143);
        Checks.due("at 143", x.requestOf(0, 0), ABOARD);
        x.lift(0, false);
        x.pass(1);
        Checks.due("broken again, but once", x.requestOf(0, 0), SERVED);
    }

    /** Each drop of its own waits 30 minutes, once. */
    private static void liftBrokenForTwoDrops() {
        DoorstepRides x = Checks.town(8, 3);
        x.ask(2, 0, 5, 100);
        x.ask(2, 0, 5, 100);
        passTo(x, 121);
        x.lift(0, false);
        passTo(x, 158);
        Checks.due("at 128 and 158: one", x.count(SERVED), 1);
        passTo(x, 193);
        Checks.due("at 193", x.count(SERVED), 1);
        x.pass(1);
        Checks.due("at 164 and 194: both", x.count(SERVED), 2);
    }

    // ---- late and long

    /** Picked up at 100 and so many minutes, told by what it is held up. */
    private static void lateByMoreThanTwenty() {
        for (int behind = 19; behind <= 22; behind++) {
            DoorstepRides x = Checks.town(8, 3);
            x.ask(0, 0, 1, 100);
            holdUp(x, 0, 100 + behind);
            passTo(x, 100 + behind + 1);
            Checks.due("not done, not late", x.requestOf(0, 7), 0);
            x.pass(1);
            int due = behind > 20 ? 1 : 0;
            Checks.due(behind + " behind", x.requestOf(0, 7), due);
            Checks.due("counted", x.count(7), due);
            x.pass(10);
            Checks.due("served", x.requestOf(0, 0), SERVED);
            Checks.due("late still", x.requestOf(0, 7), due);
            Checks.due("not long", x.requestOf(0, 8), 0);
        }
    }

    private static void longByMoreThanTenAndTwiceTheDrive() {
        int[] places = {1, 5, 35};
        for (int to : places) {
            for (int more = 9; more <= 12; more++) {
                DoorstepRides x = Checks.town(8, 3);
                x.ask(0, 0, to, 100);
                int drive = x.drive(0) / 2;
                passTo(x, 102);
                holdUp(x, 0, drive + more);
                passTo(x, 102 + 2 * drive + more + 1);
                Checks.due("not done, not long", x.requestOf(0, 8), 0);
                x.pass(1);
                Checks.due("served", x.requestOf(0, 0), SERVED);
                Checks.due(more + " and twice " + drive, x.requestOf(0, 8), more > 10 ? 1 : 0);
                Checks.due("counted", x.count(8), more > 10 ? 1 : 0);
                Checks.due("not late", x.requestOf(0, 7), 0);
            }
        }
    }

    // ---- traffic

    private static void trafficOneAndSixty() {
        DoorstepRides x = Checks.town(8, 3);
        Checks.due("1", x.traffic(0, 1), 1);
        Checks.due("60", x.traffic(0, 60), 61);
        Checks.refused("0", Checks.ARGUMENT, () -> x.traffic(0, 0));
        Checks.refused("61", Checks.ARGUMENT, () -> x.traffic(0, 61));
    }

    private static void trafficFromNowOnOrFromWhenItIsFree() {
        int[][] due = {{49, 55}, {50, 55}, {51, 56}, {60, 65}};
        for (int[] pair : due) {
            DoorstepRides x = Checks.town(8, 3);
            holdUp(x, 0, pair[0]);
            x.pass(50);
            Checks.due("free at " + pair[0] + ", at 50", x.traffic(0, 5), pair[1]);
            Checks.due("told", x.vehicleOf(0, 1), pair[1]);
        }
    }

    /** It leaves at 90 for a stop from 100 to 102: ahead of that, on its way, there, and in the last minute. */
    private static void trafficOnceItHasLeft() {
        int[] minutes = {90, 99, 100, 101};
        for (int minute : minutes) {
            DoorstepRides x = Checks.town(8, 3);
            x.ask(0, 5, 4, 100);
            passTo(x, minute);
            Checks.due("at " + minute, x.traffic(0, 7), 109);
            Checks.due("begins", x.stopOf(0, 0, 2), 107);
            Checks.due("ends", x.stopOf(0, 0, 3), 109);
            passTo(x, 108);
            Checks.due("not done", x.requestOf(0, 0), PROMISED);
            x.pass(1);
            Checks.due("began", x.requestOf(0, 4), 107);
            Checks.due("ended", x.requestOf(0, 5), 109);
        }
        DoorstepRides y = Checks.town(8, 3);
        y.ask(0, 5, 4, 100);
        passTo(y, 89);
        Checks.due("not left at 89", y.traffic(0, 7), 96);
        Checks.due("begins", y.stopOf(0, 0, 2), 106);
    }

    private static void trafficOfTheFirstAndTheLastVehicle() {
        DoorstepRides x = new DoorstepRides();
        for (int i = 0; i < 4; i++) {
            x.vehicle(0, 8, 3, 400);
        }
        Checks.due("the last", x.traffic(3, 9), 9);
        Checks.due("the first", x.traffic(0, 8), 8);
        int[] free = {8, 0, 0, 9};
        for (int i = 0; i < 4; i++) {
            Checks.due("vehicle " + i, x.vehicleOf(i, 1), free[i]);
        }
    }

    // ---- mend

    private static void mendAnEmptyRoute() {
        DoorstepRides x = Checks.town(8, 3);
        Checks.due("none", x.mend(0), 0);
        holdUp(x, 0, 700);
        Checks.due("none, free behind 600", x.mend(0), 0);
    }

    private static void mendPickMoreThanTwentyBehind() {
        for (int behind = 19; behind <= 22; behind++) {
            DoorstepRides x = Checks.town(8, 3);
            x.vehicle(0, 8, 3, 400);
            x.ask(0, 0, 1, 100);
            holdUp(x, 0, 100 + behind);
            int due = behind > 20 ? 1 : 0;
            Checks.due(behind + " behind", x.mend(0), due);
            Checks.due("its vehicle", x.requestOf(0, 3), due);
            Checks.due("its minute", x.requestOf(0, 2), 100);
        }
    }

    /**
     * From 0: a first one to 5, whose pick is due when the vehicle is free; a second one to 1; a third one with a
     * walker to 1, picked up at 119 while the second one is aboard. Without the first one the second one is picked up
     * 2 minutes earlier, and is aboard until 125: just in time from 109 on, a minute too long from 108 on.
     */
    private static void mendDropTooLateByOne() {
        for (int free = 108; free <= 109; free++) {
            DoorstepRides x = Checks.town(8, 3);
            holdUp(x, 0, free);
            x.ask(0, 0, 5, free - 20);
            x.ask(0, 0, 1, 100);
            x.ask(1, 0, 1, 119);
            Checks.dueRoute(x, 0, 0, 1, 2, 1, 2, 0);
            Checks.due("right", x.vehicleOf(0, 8), 1);
            x.cancel(0);
            Checks.due("its drop", x.stopOf(0, 2, 2), 125);
            Checks.due("right then", x.vehicleOf(0, 8), free - 108);
            Checks.due("free at " + free, x.mend(0), 109 - free);
            if (free == 108) {
                Checks.dueRoute(x, 0, 1, 1, 2, 2);
            } else {
                Checks.dueRoute(x, 0, 1, 2, 1, 2);
            }
        }
    }

    /** It leaves at 100: at 99 its stop is mended, at 100 no more. */
    private static void mendNotWhatItHasLeftFor() {
        for (int minute = 99; minute <= 100; minute++) {
            DoorstepRides x = Checks.town(8, 3);
            x.vehicle(0, 8, 3, 400);
            x.ask(0, 0, 1, 100);
            passTo(x, minute);
            holdUp(x, 0, 40);
            Checks.due("not right", x.vehicleOf(0, 8), 0);
            Checks.due("at " + minute, x.mend(0), 100 - minute);
        }
    }

    /** Its promised minute may be behind: at 119 it is picked up at 120, at 120 nowhere. */
    private static void mendUpToTwentyBehindThePromisedMinute() {
        for (int minute = 118; minute <= 121; minute++) {
            DoorstepRides x = Checks.town(8, 3);
            x.vehicle(0, 8, 3, 400);
            x.ask(0, 0, 1, 100);
            holdUp(x, 0, 160);
            passTo(x, minute);
            int due = minute <= 119 ? 1 : 0;
            Checks.due("at " + minute, x.mend(0), due);
            Checks.due("its vehicle", x.requestOf(0, 3), due);
            Checks.due("its minute", x.requestOf(0, 2), 100);
        }
    }

    /** The first one is picked up at 118, and the second one at 142: in time for 122, a minute too late for 121. */
    private static void mendLeavesAloneWhatIsInTime() {
        for (int minute = 121; minute <= 122; minute++) {
            DoorstepRides x = Checks.town(1, 0);
            x.vehicle(0, 1, 0, 400);
            x.ask(0, 0, 5, 100);
            x.ask(0, 0, 5, minute);
            Checks.dueRoute(x, 0, 0, 0, 1, 1);
            holdUp(x, 0, 118);
            Checks.due("for " + minute, x.mend(0), 122 - minute);
            Checks.due("the first stays", x.requestOf(0, 3), 0);
            Checks.due("the second", x.requestOf(1, 3), 122 - minute);
        }
    }

    /** The second vehicle has room for one alone: that whose pick is first, though it was asked for last. */
    private static void mendInTheOrderOfTheirPicks() {
        DoorstepRides x = Checks.town(2, 0);
        x.vehicle(0, 1, 0, 400);
        x.ask(0, 0, 35, 100);
        Checks.due("nothing to mend", x.mend(0), 0);
        x.ask(0, 0, 35, 100);
        Checks.dueRoute(x, 0, 1, 0, 1, 0);
        holdUp(x, 0, 200);
        Checks.due("one", x.mend(0), 1);
        Checks.due("the first pick", x.requestOf(1, 3), 1);
        Checks.due("not the second", x.requestOf(0, 3), 0);
        Checks.due("nor later", x.mend(0), 0);
    }

    private static void mendComesBackToItsTwoPlaces() {
        DoorstepRides x = Checks.town(8, 3);
        x.ask(0, 0, 5, 100);
        x.ask(1, 0, 5, 100);
        x.ask(0, 1, 4, 104);
        int[] before = new int[12];
        for (int i = 0; i < 12; i++) {
            before[i] = x.stopOf(0, i / 2, i % 2);
        }
        holdUp(x, 0, 180);
        Checks.due("none", x.mend(0), 0);
        Checks.due("six stops", x.vehicleOf(0, 2), 6);
        for (int i = 0; i < 12; i++) {
            Checks.due("stop " + i / 2, x.stopOf(0, i / 2, i % 2), before[i]);
        }
    }

    /** The other vehicle's lift bears just so much; its route has just so many stops. */
    private static void mendWhatAnotherVehicleHasRoomFor() {
        for (int lift = 69; lift <= 70; lift++) {
            DoorstepRides x = Checks.town(8, 3);
            x.ask(2, 0, 1, 100);
            x.vehicle(0, 8, 3, lift);
            holdUp(x, 0, 160);
            Checks.due("70 on " + lift, x.mend(0), lift - 69);
        }
        for (int more = 7; more <= 8; more++) {
            DoorstepRides x = Checks.town(8, 3);
            x.ask(0, 0, 1, 100);
            x.vehicle(35, 8, 3, 400);
            for (int i = 0; i < more; i++) {
                Checks.due("by the second", x.requestOf(x.ask(0, 34, 35, 150 + 50 * i), 3), 1);
            }
            holdUp(x, 0, 160);
            Checks.due(2 * more + " stops", x.mend(0), 8 - more);
        }
    }

    // ---- days

    private static void endFailsNoneAndAll() {
        DoorstepRides x = Checks.town(8, 3);
        Checks.due("of none", x.end(), 0);
        for (int i = 0; i < 8; i++) {
            Checks.due("promised", x.requestOf(x.ask(0, 0, 1, 40 + 60 * i), 0), PROMISED);
        }
        holdUp(x, 0, 600);
        Checks.due("free at 600: all eight", x.end(), 8);
        Checks.due("failed", x.count(FAILED), 8);
        Checks.due("none left", x.end(), 0);
        Checks.due("failed once", x.count(FAILED), 8);
    }

    /** A drop that ends at 600 is served, one that ends at 601 is not. */
    private static void endAtSixHundred() {
        for (int free = 594; free <= 595; free++) {
            DoorstepRides x = Checks.town(8, 3);
            x.ask(0, 0, 1, 592);
            holdUp(x, 0, free);
            Checks.due("its drop ends", x.stopOf(0, 1, 3), free + 6);
            Checks.due("failed at the end", x.end(), free - 594);
            Checks.due("what it is", x.requestOf(0, 0), free == 594 ? SERVED : FAILED);
            Checks.due("its pick", x.requestOf(0, 4), free);
            Checks.due("its drop", x.requestOf(0, 6), free == 594 ? 598 : NONE);
        }
    }

    private static void endCountsThoseOfItsEndAlone() {
        DoorstepRides x = Checks.town(8, 3);
        x.ask(2, 0, 1, 20);
        x.ask(0, 0, 1, 100);
        x.ask(0, 0, 1, 300);
        x.lift(0, false);
        x.absent(1);
        x.cancel(2);
        Checks.due("failed ahead of it, missed, cancelled", x.end(), 0);
        Checks.due("failed by the lift", x.requestOf(0, 0), FAILED);
    }

    private static void endWithOneAboard() {
        DoorstepRides x = rideAt100(2, 107);
        holdUp(x, 0, 600);
        x.ask(0, 0, 1, 500);
        Checks.due("aboard", x.end(), 1);
        Checks.due("failed", x.requestOf(0, 0), FAILED);
        Checks.due("its pick stays", x.requestOf(0, 5), 106);
        Checks.due("no drop", x.requestOf(0, 6), NONE);
        int[] due = {0, 0, 0, 0, 0, 0, 1, NONE, 1};
        for (int what = 0; what < due.length; what++) {
            Checks.due("vehicleOf " + what, x.vehicleOf(0, what), due[what]);
        }
        Checks.due("no seats anew", x.seatsAnew(0), 0);
        Checks.due("no drive", x.drive(0), 0);
    }

    private static void endBeginsTheNextDay() {
        DoorstepRides x = Checks.town(8, 3);
        x.ask(0, 0, 35, 10);
        x.pass(40);
        holdUp(x, 0, 30);
        Checks.due("away", x.vehicleOf(0, 0), 35);
        Checks.due("free at 70", x.vehicleOf(0, 1), 70);
        x.end();
        Checks.due("at its base", x.vehicleOf(0, 0), 0);
        Checks.due("free from 0 on", x.vehicleOf(0, 1), 0);
        Checks.due("the minute 0", x.now(), 0);
        Checks.due("the day 1", x.day(), 1);
        passTo(x, 600);
        Checks.due("at 600 already", x.end(), 0);
        Checks.due("the day 2", x.day(), 2);
    }

    private static void fourHundredDays() {
        DoorstepRides x = Checks.town(8, 3);
        for (int day = 0; day < 400; day++) {
            Checks.due("the day", x.day(), day);
            Checks.due("ends", x.end(), 0);
        }
        Checks.due("the day 400", x.day(), 400);
        Checks.refused("is the last one", Checks.STATE, x::end);
        Checks.due("the day 400 still", x.day(), 400);
        Checks.due("a ride on it", x.requestOf(x.ask(0, 0, 1, 10), 9), 400);
        Checks.due("its minutes pass", x.pass(20), 20);
        Checks.due("served", x.requestOf(0, 0), SERVED);
        Checks.refused("at 20 too", Checks.STATE, x::end);
    }

    // ---- cancel

    private static void cancelUpToTheMinuteBeforeItLeaves() {
        for (int minute = 89; minute <= 90; minute++) {
            DoorstepRides x = Checks.town(8, 3);
            x.ask(0, 5, 0, 100);
            passTo(x, minute);
            int due = minute == 89 ? 0 : Checks.STATE;
            Checks.due("at " + minute, Checks.thrownBy(() -> x.cancel(0)), due);
            Checks.due("stops", x.vehicleOf(0, 2), minute == 89 ? 0 : 2);
        }
    }

    /** It has left for another one's stop: that does not matter. */
    private static void cancelWhileItHasLeftForAnother() {
        DoorstepRides x = Checks.town(8, 3);
        x.ask(0, 0, 5, 100);
        x.ask(0, 0, 1, 200);
        passTo(x, 100);
        Checks.due("left", x.vehicleOf(0, 5), 1);
        Checks.due("in good time", x.cancel(1), false);
        Checks.dueRoute(x, 0, 0, 0);
        DoorstepRides y = rideAt100(0, 102);
        y.ask(0, 1, 2, 150);
        Checks.due("left for a drop", y.stopOf(0, 0, 1), 1);
        Checks.due("too late", y.cancel(1), true);
        Checks.dueRoute(y, 0, 0);
    }

    private static void cancelFirstAndLastRequest() {
        DoorstepRides x = Checks.town(8, 3);
        for (int i = 0; i < 5; i++) {
            x.ask(0, 0, 1, 100 + 50 * i);
        }
        Checks.due("the last", x.cancel(4), false);
        Checks.due("the first", x.cancel(0), false);
        Checks.dueRoute(x, 0, 1, 1, 2, 2, 3, 3);
        Checks.refused("the first again", Checks.STATE, () -> x.cancel(0));
    }

    // ---- seats anew

    private static void seatsAnewFromNoneToNone() {
        DoorstepRides x = Checks.town(8, 3);
        x.ask(2, 0, 5, 100);
        x.ask(0, 1, 4, 110);
        int[][] due = {{0, 0}, {105, 0}, {106, 2}, {111, 2}, {112, 3}, {119, 3}, {120, 2}, {127, 2}, {128, 0}};
        for (int[] at : due) {
            passTo(x, at[0]);
            Checks.due("at " + at[0], x.seatsAnew(0), at[1]);
            Checks.due("taken at " + at[0], x.vehicleOf(0, 3), at[1]);
            Checks.due("chairs at " + at[0], x.vehicleOf(0, 4), at[1] >= 2 ? 1 : 0);
        }
    }
}
