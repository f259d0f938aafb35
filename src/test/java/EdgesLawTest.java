/** The boundary cases of "Proportion, law, fares" and of the promises 17 and 24 to 26. */
public final class EdgesLawTest {
    private static final int SERVED = DoorstepRides.SERVED, MISSED = DoorstepRides.MISSED;
    private static final int FAILED = DoorstepRides.FAILED, CANCELLED = DoorstepRides.CANCELLED;
    private static final int PROMISED = DoorstepRides.PROMISED, DENIED = DoorstepRides.DENIED;
    private static final int NOT_OWED = DoorstepRides.NOT_OWED, SUSPENDED = DoorstepRides.SUSPENDED;
    private static final int NO_ROOM = DoorstepRides.NO_ROOM;

    private EdgesLawTest() {
    }

    public static void main(String[] args) {
        Checks.runAll(EdgesLawTest.class);
    }

    private static void passTo(DoorstepRides x, int minute) {
        while (x.now() < minute) {
            x.pass(Math.min(120, minute - x.now()));
        }
    }

    private static void endDays(DoorstepRides x, int days) {
        for (int i = 0; i < days; i++) {
            x.end();
        }
    }

    /** Requests of a rider that are cancelled 60 minutes ahead, or 59, which are no-shows. */
    private static void cancelInTime(DoorstepRides x, int rider, int howMany) {
        for (int i = 0; i < howMany; i++) {
            Checks.due("in time", x.cancel(x.ask(rider, 0, 1, x.now() + 60)), false);
        }
    }

    private static void cancelTooLate(DoorstepRides x, int rider, int howMany) {
        for (int i = 0; i < howMany; i++) {
            Checks.due("too late", x.cancel(x.ask(rider, 0, 1, x.now() + 59)), true);
        }
    }

    // ---- no-shows

    private static void cancelledFewerThanSixtyMinutesAhead() {
        for (int ahead = 58; ahead <= 62; ahead++) {
            DoorstepRides x = Checks.town(8, 3);
            x.ask(0, 0, 1, 100);
            passTo(x, 100 - ahead);
            Checks.due(ahead + " ahead", x.cancel(0), ahead < 60);
            Checks.due("told", x.requestOf(0, 10), ahead < 60 ? 1 : 0);
            Checks.due("counted", x.count(9), ahead < 60 ? 1 : 0);
            Checks.due("of the rider", x.riderOf(0, 1), ahead < 60 ? 1 : 0);
            Checks.due("cancelled", x.requestOf(0, 0), CANCELLED);
        }
    }

    /** Held up, it may be cancelled at its minute, and behind it too. */
    private static void cancelledAtThePromisedMinuteAndBehindIt() {
        int[] minutes = {99, 100, 101, 170};
        for (int minute : minutes) {
            DoorstepRides x = Checks.town(8, 3);
            x.ask(0, 0, 1, 100);
            x.traffic(0, 60);
            x.traffic(0, 60);
            x.traffic(0, 60);
            passTo(x, minute);
            Checks.due("at " + minute, x.cancel(0), true);
        }
    }

    private static void missedIsANoShowAndNothingElse() {
        DoorstepRides x = Checks.town(8, 3);
        x.ask(0, 0, 1, 10);
        x.ask(0, 0, 1, 40);
        x.ask(2, 0, 1, 80);
        x.ask(0, 0, 1, 120);
        x.ask(0, 0, 1, 200);
        x.absent(1);
        x.absent(4);
        x.lift(0, false);
        passTo(x, 122);
        int[] states = {SERVED, MISSED, FAILED, DoorstepRides.ABOARD, PROMISED};
        for (int i = 0; i < states.length; i++) {
            Checks.due("state", x.requestOf(i, 0), states[i]);
            Checks.due("no-show", x.requestOf(i, 10), states[i] == MISSED ? 1 : 0);
        }
        Checks.due("counted", x.count(9), 1);
    }

    // ---- suspended

    private static void threeNoShowsAreEnoughTwoAreNot() {
        DoorstepRides x = Checks.town(8, 3);
        for (int i = 0; i < 3; i++) {
            Checks.due(i + " of " + i, x.riderOf(0, 2), 0);
            cancelTooLate(x, 0, 1);
        }
        Checks.due("3 of 3", x.riderOf(0, 2), 1);
        Checks.due("another rider", x.riderOf(1, 2), 0);
        Checks.due("asked", x.requestOf(x.ask(0, 0, 1, 100), 1), SUSPENDED);
        Checks.due("another asked", x.requestOf(x.ask(1, 0, 1, 100), 0), PROMISED);
    }

    /** 5 times 3 are as many as 15; 5 times 4 are as many as 20; and so on. */
    private static void fiveTimesAsManyOrMore() {
        for (int noShows = 3; noShows <= 6; noShows++) {
            for (int all = 5 * noShows - 1; all <= 5 * noShows + 1; all++) {
                DoorstepRides x = Checks.town(8, 3);
                cancelInTime(x, 0, all - noShows);
                cancelTooLate(x, 0, noShows);
                boolean is = all <= 5 * noShows;
                Checks.due("all", x.riderOf(0, 0), all);
                Checks.due("no-shows", x.riderOf(0, 1), noShows);
                Checks.due(noShows + " of " + all, x.riderOf(0, 2), is ? 1 : 0);
                Checks.due("asked", x.requestOf(x.ask(0, 0, 1, 100), 1), is ? SUSPENDED : 0);
            }
        }
    }

    /** 3 of 15 are enough, with many that were DENIED beside them; one more that was not makes it 3 of 16. */
    private static void deniedDoNotCountForTheRider() {
        DoorstepRides x = Checks.town(8, 0);
        x.rider(2, 70, 5, false);
        for (int i = 0; i < 5; i++) {
            Checks.due("no room", x.requestOf(x.ask(2, 0, 1, 100), 1), NO_ROOM);
        }
        Checks.due("of the rider", x.riderOf(2, 0), 0);
        DoorstepRides y = Checks.town(8, 3);
        y.busStop(35, true);
        for (int i = 0; i < 20; i++) {
            Checks.due("not owed", y.requestOf(y.ask(0, 34, 35, 100), 1), NOT_OWED);
        }
        cancelInTime(y, 0, 12);
        cancelTooLate(y, 0, 3);
        Checks.due("3 of 15", y.riderOf(0, 2), 1);
        for (int i = 0; i < 5; i++) {
            Checks.due("suspended", y.requestOf(y.ask(0, 0, 1, 100), 1), SUSPENDED);
        }
        Checks.due("15 still", y.riderOf(0, 0), 15);
    }

    private static void lastThirtyDays() {
        DoorstepRides x = Checks.town(8, 3);
        cancelInTime(x, 0, 2);
        cancelTooLate(x, 0, 3);
        endDays(x, 29);
        Checks.due("day 29", x.riderOf(0, 0), 5);
        Checks.due("no-shows", x.riderOf(0, 1), 3);
        Checks.due("suspended", x.riderOf(0, 2), 1);
        Checks.due("asked", x.requestOf(x.ask(0, 0, 1, 100), 1), SUSPENDED);
        x.end();
        Checks.due("day 30", x.riderOf(0, 0), 0);
        Checks.due("no no-shows", x.riderOf(0, 1), 0);
        Checks.due("not suspended", x.riderOf(0, 2), 0);
        Checks.due("asked again", x.requestOf(x.ask(0, 0, 1, 100), 0), PROMISED);
        Checks.due("of now", x.riderOf(0, 0), 1);
    }

    /** The good ones of the day 0 leave the last 30 days ahead of the no-shows of the day 1. */
    private static void thirtyDaysOfGoodOnesToo() {
        DoorstepRides x = Checks.town(8, 3);
        cancelInTime(x, 0, 13);
        x.end();
        cancelTooLate(x, 0, 3);
        Checks.due("3 of 16", x.riderOf(0, 2), 0);
        endDays(x, 28);
        Checks.due("day 29: 3 of 16", x.riderOf(0, 2), 0);
        x.end();
        Checks.due("day 30: 3 of 3", x.riderOf(0, 2), 1);
        x.end();
        Checks.due("day 31: none", x.riderOf(0, 2), 0);
    }

    // ---- the pattern of no

    private static DoorstepRides withNoRoom(int howMany) {
        DoorstepRides x = Checks.town(8, 0);
        for (int i = 0; i < howMany; i++) {
            Checks.due("no room", x.requestOf(x.ask(2, 0, 1, 100), 1), NO_ROOM);
        }
        return x;
    }

    private static void twoWithoutRoomAreAPatternOneIsNot() {
        Checks.due("none", withNoRoom(0).patterns(), 0);
        Checks.due("one", withNoRoom(1).patterns(), 0);
        Checks.due("two", withNoRoom(2).patterns(), 1);
        Checks.due("60 of 60", withNoRoom(60).patterns(), 1);
    }

    private static void moreThanATwentieth() {
        int[][] due = {{2, 39, 1}, {2, 40, 0}, {2, 41, 0}, {3, 59, 1}, {3, 60, 0}, {2, 60, 0}, {1, 19, 0}};
        for (int[] one : due) {
            DoorstepRides x = withNoRoom(one[0]);
            cancelInTime(x, 0, one[1] - one[0]);
            Checks.due(one[0] + " of " + one[1], x.patterns(), one[2]);
        }
    }

    /** 2 of 39, however many were NOT_OWED or SUSPENDED. */
    private static void notOwedAndSuspendedDoNotCountForTheLaw() {
        DoorstepRides x = withNoRoom(2);
        cancelTooLate(x, 1, 3);
        cancelInTime(x, 0, 34);
        for (int i = 0; i < 10; i++) {
            Checks.due("suspended", x.requestOf(x.ask(1, 0, 1, 100), 1), SUSPENDED);
        }
        x.busStop(0, true);
        for (int i = 0; i < 10; i++) {
            Checks.due("not owed", x.requestOf(x.ask(0, 0, 1, 100), 1), NOT_OWED);
        }
        Checks.due("2 of 39", x.patterns(), 1);
        x.ask(0, 35, 34, 100);
        Checks.due("2 of 40", x.patterns(), 0);
    }

    private static void lastTwentyDaysOfNo() {
        DoorstepRides x = withNoRoom(2);
        endDays(x, 19);
        Checks.due("day 19", x.patterns(), 1);
        x.end();
        Checks.due("day 20", x.patterns(), 0);
        DoorstepRides y = Checks.town(8, 0);
        cancelInTime(y, 0, 38);
        y.end();
        y.ask(2, 0, 1, 100);
        y.ask(2, 0, 1, 100);
        Checks.due("2 of 40", y.patterns(), 0);
        endDays(y, 18);
        Checks.due("day 19: 2 of 40", y.patterns(), 0);
        y.end();
        Checks.due("day 20: 2 of 2", y.patterns(), 1);
        y.end();
        Checks.due("day 21: none", y.patterns(), 0);
    }

    // ---- the pattern of late rides

    /** So many rides that are served late, all at once and so few that none is long, then so many in time. */
    private static DoorstepRides withServed(int late, int all) {
        DoorstepRides x = Checks.town(8, 3);
        for (int i = 0; i < late; i++) {
            x.ask(0, 0, 1, 10);
        }
        if (late > 0) {
            x.traffic(0, 31);
        }
        for (int served = late; served < all; served++) {
            if ((served - late) % 8 == 0) {
                x.end();
            }
            x.ask(0, 0, 1, 40 + 60 * ((served - late) % 8));
        }
        x.end();
        Checks.due("served", x.count(SERVED), all);
        Checks.due("late", x.count(7), late);
        Checks.due("long", x.count(8), 0);
        return x;
    }

    private static void moreThanATenth() {
        int[][] due = {{0, 0, 0}, {0, 1, 0}, {1, 1, 2}, {1, 9, 2}, {1, 10, 0}, {1, 11, 0}, {2, 19, 2}, {2, 20, 0},
            {3, 29, 2}, {3, 30, 0}};
        for (int[] one : due) {
            Checks.due(one[0] + " of " + one[1], withServed(one[0], one[1]).patterns(), one[2]);
        }
    }

    private static void lateAndLongCountsOnce() {
        DoorstepRides x = Checks.town(8, 3);
        x.ask(0, 0, 1, 10);
        x.traffic(0, 31);
        passTo(x, 33);
        x.traffic(0, 13);
        x.end();
        Checks.due("late", x.count(7), 1);
        Checks.due("long", x.count(8), 1);
        for (int i = 0; i < 8; i++) {
            x.ask(0, 0, 1, 40 + 60 * i);
        }
        x.end();
        Checks.due("1 of 9", x.patterns(), 2);
        x.ask(0, 0, 1, 40);
        x.end();
        Checks.due("1 of 10", x.patterns(), 0);
    }

    private static void longAloneCountsToo() {
        DoorstepRides x = Checks.town(8, 3);
        x.ask(0, 0, 1, 10);
        passTo(x, 12);
        x.traffic(0, 13);
        passTo(x, 28);
        Checks.due("aboard", x.patterns(), 0);
        passTo(x, 29);
        Checks.due("long", x.count(8), 1);
        Checks.due("1 of 1", x.patterns(), 2);
    }

    /** Late, but missed, failed, or aboard still: not SERVED. */
    private static void lateButNotServed() {
        DoorstepRides x = Checks.town(8, 3);
        x.ask(0, 0, 1, 10);
        x.ask(2, 0, 1, 10);
        x.absent(0);
        x.lift(0, false);
        x.traffic(0, 41);
        passTo(x, 100);
        Checks.due("both late", x.count(7), 2);
        Checks.due("missed", x.requestOf(0, 0), MISSED);
        Checks.due("failed", x.requestOf(1, 0), FAILED);
        Checks.due("none is served", x.patterns(), 0);
        DoorstepRides y = Checks.town(8, 3);
        y.ask(0, 0, 1, 10);
        y.traffic(0, 31);
        passTo(y, 35);
        Checks.due("late and aboard", y.count(7), 1);
        Checks.due("not served yet", y.patterns(), 0);
        passTo(y, 37);
        Checks.due("served", y.patterns(), 2);
    }

    private static void lastTwentyDaysOfLateRides() {
        DoorstepRides x = withServed(1, 1);
        endDays(x, 18);
        Checks.due("day 19", x.day(), 19);
        Checks.due("of the day 0", x.patterns(), 2);
        x.end();
        Checks.due("day 20", x.patterns(), 0);
    }

    private static void bothPatterns() {
        DoorstepRides x = Checks.town(8, 0);
        x.ask(2, 0, 1, 100);
        x.ask(2, 0, 1, 100);
        Checks.due("that of no", x.patterns(), 1);
        x.ask(0, 0, 1, 10);
        x.traffic(0, 31);
        x.end();
        Checks.due("both", x.patterns(), 3);
        endDays(x, 18);
        Checks.due("day 19", x.patterns(), 3);
        x.end();
        Checks.due("day 20", x.patterns(), 0);
    }

    // ---- riders and counts

    private static void countsFromNoneToSixty() {
        DoorstepRides x = withNoRoom(60);
        Checks.due("denied", x.count(DENIED), 60);
        for (int what = 0; what <= 9; what++) {
            Checks.due("count " + what, x.count(what), what == DENIED ? 60 : 0);
        }
        Checks.refused("10", Checks.ARGUMENT, () -> x.count(10));
        Checks.refused("-1", Checks.ARGUMENT, () -> x.count(-1));
    }

    private static void countsAreOfAllDays() {
        DoorstepRides x = Checks.town(8, 3);
        cancelTooLate(x, 0, 2);
        x.ask(0, 0, 1, 100);
        endDays(x, 60);
        Checks.due("cancelled", x.count(CANCELLED), 2);
        Checks.due("no-shows", x.count(9), 2);
        Checks.due("served", x.count(SERVED), 1);
        Checks.due("money", x.money(), 220);
        Checks.due("but none of the last 30 days", x.riderOf(0, 0), 0);
    }

    // ---- fares

    private static void fareOfOneStepAndOfTen() {
        int[][] due = {{1, 220}, {6, 220}, {5, 300}, {7, 240}, {35, 400}};
        for (int[] pair : due) {
            DoorstepRides x = Checks.town(8, 3);
            x.ask(0, 0, pair[0], 100);
            int served = x.stopOf(0, 1, 3);
            passTo(x, served - 1);
            Checks.due("not served", x.money(), 0);
            x.pass(1);
            Checks.due("to " + pair[0], x.money(), pair[1]);
        }
    }

    private static void fareOfALateRide() {
        for (int behind = 20; behind <= 21; behind++) {
            DoorstepRides x = Checks.town(8, 3);
            x.ask(0, 0, 1, 30);
            x.traffic(0, 30 + behind);
            Checks.due("begins", x.stopOf(0, 0, 2), 30 + behind);
            x.end();
            Checks.due("late", x.requestOf(0, 7), behind - 20);
            Checks.due(behind + " behind", x.money(), behind == 20 ? 220 : 0);
        }
    }

    private static void fareOfALongRide() {
        for (int more = 10; more <= 11; more++) {
            DoorstepRides x = Checks.town(8, 3);
            x.ask(0, 0, 5, 100);
            passTo(x, 102);
            x.traffic(0, 10 + more);
            x.end();
            Checks.due("long", x.requestOf(0, 8), more - 10);
            Checks.due(more + " and twice the drive", x.money(), more == 10 ? 300 : 0);
        }
    }

    private static void fareOfWhatIsNotServed() {
        DoorstepRides x = Checks.town(8, 3);
        x.ask(0, 0, 1, 10);
        x.ask(0, 0, 1, 60);
        x.ask(2, 0, 1, 120);
        x.ask(0, 0, 1, 540);
        x.absent(0);
        x.cancel(1);
        x.lift(0, false);
        x.ask(2, 0, 1, 300);
        passTo(x, 200);
        for (int i = 0; i < 6; i++) {
            x.traffic(0, 60);
        }
        x.traffic(0, 37);
        x.end();
        int[] states = {MISSED, CANCELLED, FAILED, FAILED, DENIED};
        for (int i = 0; i < states.length; i++) {
            Checks.due("state", x.requestOf(i, 0), states[i]);
        }
        Checks.due("nothing", x.money(), 0);
    }
}
