import java.util.Random;

/**
 * Runs of calls by fixed seeds, on the program and on PlainModel: every answer, every exception and every question
 * has to be the same. Most runs ask all questions behind every call; the quiet ones seldom do, so that nothing rests
 * on a question having been asked.
 */
public final class RandomRunsTest {
    private static final int RUNS = 120;
    private static final int CALLS = 220;

    private final Random random;
    private final DoorstepRides program = new DoorstepRides();
    private final PlainModel model = new PlainModel();
    private final StringBuilder story = new StringBuilder();
    private final int spread;
    private final int window;
    private final boolean hasBuses;
    private final boolean hasManyChairs;
    private final boolean isQuiet;
    private boolean same = true;
    private int moved;
    private int patternsSeen;
    private int fullRoutes;

    private RandomRunsTest(long seed) {
        random = new Random(seed);
        spread = 2 + random.nextInt(5);
        window = random.nextInt(3) == 0 ? 600 : 60;
        hasBuses = random.nextInt(3) == 0;
        hasManyChairs = random.nextBoolean();
        isQuiet = random.nextInt(3) == 0;
    }

    public static void main(String[] args) {
        long first = args.length > 0 ? Long.parseLong(args[0]) : 1;
        int runs = args.length > 1 ? Integer.parseInt(args[1]) : RUNS;
        int[] met = new int[16];
        for (long seed = first; seed < first + runs; seed++) {
            RandomRunsTest run = new RandomRunsTest(seed);
            run.go();
            Checks.due("run " + seed, run.same, true);
            if (!run.same) {
                System.out.println(run.story);
                break;
            }
            run.addTo(met);
        }
        System.out.println("met: " + java.util.Arrays.toString(met));
        Checks.close("RandomRunsTest");
    }

    /** What the runs met, so that one sees whether they are worth their while. */
    private void addTo(int[] met) {
        for (int what = 0; what < 10; what++) {
            met[what] += program.count(what);
        }
        for (int i = 0; i < model.requests.size(); i++) {
            int reason = program.requestOf(i, 1);
            met[9 + reason] += reason > 0 ? 1 : 0;
        }
        met[13] += moved;
        met[14] += patternsSeen;
        met[15] += fullRoutes;
    }

    private void go() {
        int vehicles = 1 + random.nextInt(3);
        for (int i = 0; i < vehicles; i++) {
            tellVehicle();
        }
        for (int i = 0; i < 4; i++) {
            tellRider();
        }
        for (int i = 0; i < CALLS && same; i++) {
            call();
            if (!isQuiet || i % 40 == 39 || i == CALLS - 1) {
                askAll();
            }
        }
    }

    private int place() {
        int row = random.nextInt(spread);
        int column = random.nextInt(spread);
        return 6 * row + column;
    }

    /** Seldom a number beside the range, or far from it. */
    private int about(int least, int most) {
        if (random.nextInt(60) == 0) {
            int[] beside = {least - 1, most + 1, least - 1, most + 1, Integer.MIN_VALUE, Integer.MAX_VALUE};
            return beside[random.nextInt(beside.length)];
        }
        return least + random.nextInt(Math.max(1, most - least + 1));
    }

    private int aPlace() {
        return random.nextInt(60) == 0 ? (random.nextBoolean() ? -1 : 36) : place();
    }

    private void same(String call, Checks.Call got, Checks.Call want) {
        long answer = Checks.outcome(got);
        long due = Checks.outcome(want);
        if (story.length() < 200_000 && !call.startsWith("?")) {
            story.append(call).append(" -> ").append(due).append('\n');
        }
        if (answer != due) {
            same = false;
            story.append(call).append(" answered ").append(answer).append(", due is ").append(due).append('\n');
        }
    }

    private static long bit(boolean is) {
        return is ? 1 : 0;
    }

    private void tellVehicle() {
        int base = aPlace(), seats = about(1, 8), ties = about(0, 3), lift = about(50, 400);
        same("vehicle " + base + " " + seats + " " + ties + " " + lift,
                () -> program.vehicle(base, seats, ties, lift), () -> model.vehicle(base, seats, ties, lift));
    }

    private void tellRider() {
        int kind = hasManyChairs && random.nextBoolean() ? 2 : about(0, 2), weight = about(30, 300), walk = about(0, 10);
        boolean helper = random.nextInt(3) == 0;
        same("rider " + kind + " " + weight + " " + walk + " " + helper,
                () -> program.rider(kind, weight, walk, helper), () -> model.rider(kind, weight, walk, helper));
    }

    private void call() {
        int vehicle = about(0, model.vehicles.size() - 1);
        int request = model.requests.isEmpty() ? 0
                : about(Math.max(0, model.requests.size() - 8), model.requests.size() - 1);
        int dice = random.nextInt(100);
        if (dice < 34) {
            callAsk();
        } else if (dice < 54) {
            int minutes = random.nextInt(8) == 0 ? about(1, 120) : about(1, 12);
            same("pass " + minutes, () -> program.pass(minutes), () -> model.pass(minutes));
        } else if (dice < 63) {
            int minutes = random.nextInt(3) == 0 ? about(1, 60) : about(1, 15);
            same("traffic " + vehicle + " " + minutes, () -> program.traffic(vehicle, minutes),
                    () -> model.traffic(vehicle, minutes));
            if (random.nextInt(3) > 0) {
                callMend(vehicle);
            }
        } else if (dice < 73) {
            callMend(vehicle);
        } else if (dice < 81) {
            same("cancel " + request, () -> bit(program.cancel(request)), () -> bit(model.cancel(request)));
        } else if (dice < 85) {
            same("absent " + request, () -> { program.absent(request); return 0; },
                    () -> { model.absent(request); return 0; });
        } else if (dice < 90) {
            boolean does = random.nextInt(3) > 0;
            same("lift " + vehicle + " " + does, () -> bit(program.lift(vehicle, does)),
                    () -> bit(model.lift(vehicle, does)));
        } else {
            callSeldom(dice);
        }
    }

    private void callAsk() {
        int rider = about(0, model.riders.size() - 1);
        int from = aPlace(), to = aPlace();
        int minute = random.nextInt(4) == 0 ? about(0, 600)
                : Math.max(-1, Math.min(601, model.now + random.nextInt(window) - 10));
        same("ask " + rider + " " + from + " " + to + " " + minute, () -> program.ask(rider, from, to, minute),
                () -> model.ask(rider, from, to, minute));
    }

    private void callMend(int vehicle) {
        same("mend " + vehicle, () -> {
            int mended = program.mend(vehicle);
            moved += mended;
            return mended;
        }, () -> model.mend(vehicle));
    }

    private void callSeldom(int dice) {
        int at = aPlace();
        boolean is = random.nextInt(3) > 0;
        if (dice < 92 && hasBuses) {
            same("busStop " + at + " " + is, () -> program.busStop(at, is), () -> model.busStop(at, is));
        } else if (dice < 93) {
            same("winter " + is, () -> bit(program.winter(is)), () -> bit(model.winter(is)));
        } else if (dice < 95) {
            int days = random.nextInt(4) == 0 ? 1 + random.nextInt(31) : 1;
            for (int i = 0; i < days; i++) {
                same("end", program::end, model::end);
            }
        } else if (dice < 97) {
            tellVehicle();
        } else {
            tellRider();
        }
    }

    // ---- all questions

    private void askAll() {
        same("?day", program::day, () -> model.day);
        same("?now", program::now, () -> model.now);
        same("?money", program::money, model::money);
        same("?patterns", program::patterns, model::patterns);
        patternsSeen += program.patterns() > 0 ? 1 : 0;
        for (int what = -1; what <= 10; what++) {
            int asked = what;
            same("?count " + asked, () -> program.count(asked), () -> model.count(asked));
        }
        for (int i = -1; i <= model.riders.size(); i++) {
            askRider(i);
        }
        for (int i = -1; i <= model.vehicles.size(); i++) {
            askVehicle(i);
        }
        for (int i = -1; i <= model.requests.size(); i++) {
            for (int what = -1; what <= 11; what++) {
                int number = i;
                int asked = what;
                same("?requestOf " + number + " " + asked, () -> program.requestOf(number, asked),
                        () -> model.requestOf(number, asked));
            }
        }
    }

    private void askRider(int number) {
        int from = aPlace(), to = aPlace();
        same("?owes " + number + " " + from + " " + to, () -> bit(program.owes(number, from, to)),
                () -> bit(model.owes(number, from, to)));
        for (int what = -1; what <= 3; what++) {
            int asked = what;
            same("?riderOf " + number + " " + asked, () -> program.riderOf(number, asked),
                    () -> model.riderOf(number, asked));
        }
    }

    private void askVehicle(int number) {
        for (int what = -1; what <= 9; what++) {
            int asked = what;
            same("?vehicleOf " + number + " " + asked, () -> program.vehicleOf(number, asked),
                    () -> model.vehicleOf(number, asked));
        }
        same("?seatsAnew " + number, () -> program.seatsAnew(number), () -> model.seatsAnew(number));
        same("?drive " + number, () -> program.drive(number), () -> model.drive(number));
        if (random.nextInt(10) == 0) {
            same("?leastDrive " + number, () -> program.leastDrive(number), () -> model.leastDrive(number));
        }
        fullRoutes += Checks.outcome(() -> program.vehicleOf(number, 2)) == 16 ? 1 : 0;
        boolean is = number >= 0 && number < model.vehicles.size();
        int stops = is ? model.vehicles.get(number).route.size() : 0;
        for (int place = -1; place <= stops; place++) {
            for (int what = -1; what <= 4; what++) {
                int at = place;
                int asked = what;
                same("?stopOf " + number + " " + at + " " + asked, () -> program.stopOf(number, at, asked),
                        () -> model.stopOf(number, at, asked));
            }
        }
    }
}
