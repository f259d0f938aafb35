import java.util.ArrayList;
import java.util.List;
import java.util.function.Consumer;
import java.util.function.Supplier;

/**
 * Two objects that are made by the same calls: what one of them is refused, or asked, must not show in it, neither
 * in what it tells then nor in what comes later. It is looked at in parts, each on twins of its own, so that no object
 * is used for more than the 512 calls of the document.
 */
final class Twins {
    private static final int VEHICLES = 4;
    private static final int REQUESTS_A_PART = 15;
    private static final int PARTS = 1 + VEHICLES + 60 / REQUESTS_A_PART;
    private static final int[] OWED_AT = {0, 1, 14, 20, 34, 35};

    private Twins() {
    }

    /** The call throws what is due, and changes nothing. */
    static void refused(String what, int want, Supplier<DoorstepRides> town, Consumer<DoorstepRides> call) {
        DoorstepRides x = town.get();
        Checks.refused(what, want, () -> call.accept(x));
        unchanged(what, town, call);
    }

    /** The call, whether it throws or not, changes nothing. */
    static void unchanged(String what, Supplier<DoorstepRides> town, Consumer<DoorstepRides> call) {
        for (int part = 0; part < PARTS; part++) {
            DoorstepRides x = town.get();
            DoorstepRides twin = town.get();
            Checks.outcome(() -> {
                call.accept(x);
                return 0;
            });
            Checks.due(what + ", and then all, part " + part + ",", told(x, part), told(twin, part));
            Checks.due(what + ", and what came later", later(x), later(twin));
            Checks.due(what + ", and all later, part " + part + ",", told(x, part), told(twin, part));
        }
    }

    /** Everything that the questions tell: of the whole and the riders, of one vehicle, or of some requests. */
    private static List<Long> told(DoorstepRides x, int part) {
        List<Long> all = new ArrayList<>();
        if (part == 0) {
            tellWhole(x, all);
        } else if (part <= VEHICLES) {
            tellVehicle(x, part - 1, all);
        } else {
            int first = (part - 1 - VEHICLES) * REQUESTS_A_PART;
            for (int i = first; i < first + REQUESTS_A_PART && isAnswered(x, "request", i); i++) {
                for (int what = 0; what <= 10; what++) {
                    all.add((long) x.requestOf(i, what));
                }
            }
        }
        return all;
    }

    private static boolean isAnswered(DoorstepRides x, String kind, int number) {
        return Checks.thrownBy(() -> {
            if (kind.equals("rider")) {
                x.riderOf(number, 0);
            } else if (kind.equals("vehicle")) {
                x.vehicleOf(number, 0);
            } else {
                x.requestOf(number, 0);
            }
        }) == 0;
    }

    private static void tellWhole(DoorstepRides x, List<Long> all) {
        all.add((long) x.day());
        all.add((long) x.now());
        all.add((long) x.patterns());
        all.add(x.money());
        for (int what = 0; what <= 9; what++) {
            all.add((long) x.count(what));
        }
        for (int i = 0; i < 16 && isAnswered(x, "rider", i); i++) {
            for (int what = 0; what <= 2; what++) {
                all.add((long) x.riderOf(i, what));
            }
            for (int place : OWED_AT) {
                all.add(x.owes(i, place, 7) ? 1L : 0L);
            }
        }
    }

    private static void tellVehicle(DoorstepRides x, int vehicle, List<Long> all) {
        if (!isAnswered(x, "vehicle", vehicle)) {
            return;
        }
        for (int what = 0; what <= 8; what++) {
            all.add((long) x.vehicleOf(vehicle, what));
        }
        all.add((long) x.seatsAnew(vehicle));
        all.add((long) x.drive(vehicle));
        all.add((long) x.leastDrive(vehicle));
        for (int stop = 0; stop < x.vehicleOf(vehicle, 2); stop++) {
            for (int what = 0; what <= 3; what++) {
                all.add((long) x.stopOf(vehicle, stop, what));
            }
        }
    }

    /** Some calls of every kind, so that what is held but not told shows too. */
    private static List<Long> later(DoorstepRides x) {
        List<Long> all = new ArrayList<>();
        all.add(Checks.outcome(() -> x.mend(0)));
        all.add(Checks.outcome(() -> x.pass(7)));
        all.add(Checks.outcome(() -> x.traffic(0, 5)));
        all.add(Checks.outcome(() -> x.ask(0, 0, 1, 300)));
        all.add(Checks.outcome(() -> x.lift(0, true) ? 1 : 0));
        all.add(Checks.outcome(() -> x.ask(2, 0, 1, 320)));
        all.add(Checks.outcome(() -> x.pass(90)));
        all.add(Checks.outcome(() -> x.vehicle(7, 3, 1, 90)));
        all.add(Checks.outcome(() -> x.rider(1, 77, 3, true)));
        all.add(Checks.outcome(() -> x.winter(false) ? 1 : 0));
        all.add(Checks.outcome(() -> x.busStop(20, false)));
        all.add(Checks.outcome(() -> x.cancel(0) ? 1 : 0));
        all.add(Checks.outcome(x::end));
        return all;
    }
}
