import java.util.ArrayList;
import java.util.Comparator;
import java.util.List;

/**
 * The document once more, written apart from the program and without a thought for speed: routes are copied,
 * every place is tried, everything is reckoned anew. RandomRunsTest holds the program against it.
 */
final class PlainModel {
    static final class Req {
        int rider, from, to, day, status, reason, minute = -1, vehicle = -1;
        int pickBegan = -1, pickEnded = -1, dropBegan = -1;
        boolean absent, noShow;
    }

    record Rid(int kind, int weight, int walk, boolean helper) {
        int seats() {
            return (kind == 2 ? 2 : 1) + (helper ? 1 : 0);
        }

        int service() {
            return new int[] {2, 4, 6}[kind];
        }
    }

    record Open(int request, boolean drop) {
    }

    static final class Veh {
        int base, seats, ties, lift, place, free;
        boolean works = true, left, waited;
        int leftBegin, leftEnd;
        List<Open> route = new ArrayList<>();
        List<Integer> aboard = new ArrayList<>();
        int seatsDone;
    }

    record Way(int growth, int vehicle, int pick, int drop, List<Open> route) {
    }

    final List<Rid> riders = new ArrayList<>();
    final List<Veh> vehicles = new ArrayList<>();
    final List<Req> requests = new ArrayList<>();
    final List<Integer> busStops = new ArrayList<>();
    boolean winter;
    int day, now;

    private static void index(boolean holds) {
        if (!holds) throw new IndexOutOfBoundsException();
    }

    private static void argument(boolean holds) {
        if (!holds) throw new IllegalArgumentException();
    }

    private static void state(boolean holds) {
        if (!holds) throw new IllegalStateException();
    }

    private static boolean in(int value, int least, int most) {
        return least <= value && value <= most;
    }

    static int steps(int a, int b) {
        int rows = a / 6 > b / 6 ? a / 6 - b / 6 : b / 6 - a / 6;
        int columns = a % 6 > b % 6 ? a % 6 - b % 6 : b % 6 - a % 6;
        return rows + columns;
    }

    static int minutes(int a, int b) {
        return 2 * steps(a, b);
    }

    int rider(int kind, int weight, int walk, boolean helper) {
        argument(in(kind, 0, 2) && in(weight, 30, 300) && in(walk, 0, 10));
        state(riders.size() < 16);
        riders.add(new Rid(kind, weight, walk, helper));
        return riders.size() - 1;
    }

    boolean winter(boolean is) {
        boolean was = winter;
        winter = is;
        return was;
    }

    int busStop(int place, boolean is) {
        argument(in(place, 0, 35));
        busStops.remove((Integer) place);
        if (is) busStops.add(place);
        return busStops.size();
    }

    int vehicle(int base, int seats, int ties, int lift) {
        argument(in(base, 0, 35) && in(seats, 1, 8) && in(ties, 0, 3) && in(lift, 50, 400));
        state(vehicles.size() < 4);
        Veh v = new Veh();
        v.base = base;
        v.place = base;
        v.seats = seats;
        v.ties = ties;
        v.lift = lift;
        vehicles.add(v);
        return vehicles.size() - 1;
    }

    private Veh veh(int vehicle) {
        index(in(vehicle, 0, vehicles.size() - 1));
        return vehicles.get(vehicle);
    }

    private Req req(int request) {
        index(in(request, 0, requests.size() - 1));
        return requests.get(request);
    }

    private Rid rid(int rider) {
        index(in(rider, 0, riders.size() - 1));
        return riders.get(rider);
    }

    boolean lift(int vehicle, boolean does) {
        Veh v = veh(vehicle);
        boolean did = v.works;
        v.works = does;
        return did;
    }

    // ---- plans and routes

    /** The minutes of each stop of a route that the vehicle would have, and when it would be back. */
    int[][] plan(Veh v, List<Open> route) {
        int[][] minutes = new int[route.size() + 1][2];
        int done = Math.max(v.free, now + 1);
        int at = v.place;
        for (int i = 0; i < route.size(); i++) {
            Req r = requests.get(route.get(i).request);
            int to = route.get(i).drop ? r.to : r.from;
            if (i == 0 && v.left) {
                minutes[i] = new int[] {v.leftBegin, v.leftEnd};
            } else {
                int leaves = done;
                if (!route.get(i).drop) leaves = Math.max(leaves, r.minute - minutes(at, to));
                int begin = leaves + minutes(at, to);
                minutes[i] = new int[] {begin, begin + riders.get(r.rider).service()};
            }
            done = minutes[i][1];
            at = to;
        }
        minutes[route.size()][0] = done + minutes(at, v.base);
        return minutes;
    }

    boolean inTime(Veh v, List<Open> route, int place) {
        int[][] plan = plan(v, route);
        Open stop = route.get(place);
        Req r = requests.get(stop.request);
        if (!stop.drop) return plan[place][0] - r.minute <= 20;
        int pick = route.indexOf(new Open(stop.request, false));
        int pickEnd = pick < 0 ? r.pickEnded : plan[pick][1];
        return plan[place][0] - pickEnd <= 10 + 2 * minutes(r.from, r.to);
    }

    private boolean loads(Veh v, List<Open> route) {
        for (int upTo = 0; upTo < route.size(); upTo++) {
            int seats = 0;
            int ties = 0;
            List<Integer> in = new ArrayList<>(v.aboard);
            for (int i = 0; i <= upTo; i++) {
                if (route.get(i).drop) in.remove((Integer) route.get(i).request);
                else in.add(route.get(i).request);
            }
            for (int r : in) {
                Rid who = riders.get(requests.get(r).rider);
                seats += who.seats();
                if (who.kind == 2) ties++;
            }
            if (seats > v.seats || ties > v.ties) return false;
        }
        return true;
    }

    /** No chair leaves while one stands behind it: no two of them cross. */
    private boolean chairsCross(Veh v, List<Open> route) {
        List<int[]> rides = new ArrayList<>();
        for (int i = 0; i < v.aboard.size(); i++) {
            rides.add(new int[] {i - 1000, route.indexOf(new Open(v.aboard.get(i), true)), v.aboard.get(i)});
        }
        for (int i = 0; i < route.size(); i++) {
            if (!route.get(i).drop) {
                int r = route.get(i).request;
                rides.add(new int[] {i, route.indexOf(new Open(r, true)), r});
            }
        }
        rides.removeIf(ride -> riders.get(requests.get(ride[2]).rider).kind != 2);
        for (int[] a : rides) {
            for (int[] b : rides) {
                if (a[0] < b[0] && b[0] < a[1] && a[1] < b[1]) return true;
            }
        }
        return false;
    }

    boolean right(Veh v, List<Open> route) {
        if (route.isEmpty()) return true;
        for (int i = 0; i < route.size(); i++) {
            if (!inTime(v, route, i)) return false;
        }
        return loads(v, route) && !chairsCross(v, route) && plan(v, route)[route.size()][0] <= 600;
    }

    int driveOf(Veh v, List<Open> route) {
        int drive = 0;
        int at = v.place;
        for (Open stop : route) {
            Req r = requests.get(stop.request);
            int to = stop.drop ? r.to : r.from;
            drive += minutes(at, to);
            at = to;
        }
        return drive + minutes(at, v.base);
    }

    private boolean put(int request) {
        Req r = requests.get(request);
        Rid who = riders.get(r.rider);
        List<Way> ways = new ArrayList<>();
        for (int n = 0; n < vehicles.size(); n++) {
            Veh v = vehicles.get(n);
            if (who.kind == 2 && (!v.works || v.lift < who.weight)) continue;
            int first = v.left ? 1 : 0;
            for (int pick = first; pick <= v.route.size(); pick++) {
                for (int drop = pick + 1; drop <= v.route.size() + 1; drop++) {
                    List<Open> route = new ArrayList<>(v.route);
                    route.add(pick, new Open(request, false));
                    route.add(drop, new Open(request, true));
                    if (route.size() <= 16 && right(v, route)) {
                        ways.add(new Way(driveOf(v, route) - driveOf(v, v.route), n, pick, drop, route));
                    }
                }
            }
        }
        if (ways.isEmpty()) return false;
        Way way = ways.stream().min(Comparator.comparingInt(Way::growth).thenComparingInt(Way::vehicle)
                .thenComparingInt(Way::pick).thenComparingInt(Way::drop)).get();
        vehicles.get(way.vehicle).route = way.route;
        r.vehicle = way.vehicle;
        return true;
    }

    int ask(int rider, int from, int to, int minute) {
        Rid who = rid(rider);
        argument(in(from, 0, 35) && in(to, 0, 35) && in(minute, 0, 600) && from != to);
        state(requests.size() < 60);
        Req r = new Req();
        r.rider = rider;
        r.from = from;
        r.to = to;
        r.day = day;
        boolean suspended = riderOf(rider, 2) == 1;
        requests.add(r);
        int number = requests.size() - 1;
        r.status = 6;
        if (!owed(who, from, to)) {
            r.reason = 1;
        } else if (suspended) {
            r.reason = 2;
        } else {
            r.reason = 3;
            List<Integer> tries = new ArrayList<>(List.of(minute));
            for (int away = 10; away <= 60; away += 10) tries.addAll(List.of(minute + away, minute - away));
            for (int m : tries) {
                if (m <= now || m > 600) continue;
                r.minute = m;
                if (put(number)) {
                    r.status = 0;
                    r.reason = 0;
                    return number;
                }
            }
            r.minute = -1;
        }
        return number;
    }

    private boolean leftFor(Req r) {
        Veh v = vehicles.get(r.vehicle);
        return v.left && requests.get(v.route.get(0).request) == r;
    }

    boolean cancel(int request) {
        Req r = req(request);
        state(r.status == 0 && !leftFor(r));
        vehicles.get(r.vehicle).route.removeIf(stop -> stop.request == request);
        r.status = 4;
        r.noShow = r.minute - now < 60;
        return r.noShow;
    }

    void absent(int request) {
        Req r = req(request);
        state(r.status == 0);
        r.absent = true;
    }

    // ---- the day

    int pass(int minutes) {
        argument(in(minutes, 1, 120));
        state(now + minutes <= 600);
        for (int i = 0; i < minutes; i++) minute();
        return now;
    }

    private void minute() {
        now++;
        for (Veh v : vehicles) {
            if (v.left && v.leftEnd == now) stopEnds(v);
            if (!v.left && v.free <= now && !v.route.isEmpty()) {
                Open stop = v.route.get(0);
                Req r = requests.get(stop.request);
                int way = minutes(v.place, stop.drop ? r.to : r.from);
                if (stop.drop || r.minute - way <= now) {
                    v.left = true;
                    v.waited = false;
                    v.leftBegin = now + way;
                    v.leftEnd = v.leftBegin + riders.get(r.rider).service();
                }
            }
        }
    }

    private void stopEnds(Veh v) {
        Open stop = v.route.get(0);
        Req r = requests.get(stop.request);
        Rid who = riders.get(r.rider);
        boolean stuck = who.kind == 2 && !v.works;
        if (stop.drop && stuck && !v.waited) {
            v.waited = true;
            v.leftEnd += 30;
            return;
        }
        v.route.remove(0);
        v.left = false;
        v.free = now;
        v.place = stop.drop ? r.to : r.from;
        if (stop.drop) {
            r.dropBegan = v.leftBegin;
            r.status = 2;
            v.aboard.remove((Integer) stop.request);
            v.seatsDone -= who.seats();
            return;
        }
        r.pickBegan = v.leftBegin;
        r.pickEnded = now;
        if (r.absent) {
            r.status = 3;
            r.noShow = true;
        } else if (stuck) {
            r.status = 5;
        } else {
            r.status = 1;
            v.aboard.add(stop.request);
            v.seatsDone += who.seats();
            return;
        }
        v.route.removeIf(open -> open.request == stop.request);
    }

    int end() {
        state(day < 400);
        while (now < 600) minute();
        int failed = 0;
        for (Req r : requests) {
            if (r.status <= 1) {
                r.status = 5;
                failed++;
            }
        }
        for (Veh v : vehicles) {
            v.route.clear();
            v.aboard.clear();
            v.seatsDone = 0;
            v.left = false;
            v.place = v.base;
            v.free = 0;
        }
        day++;
        now = 0;
        return failed;
    }

    int traffic(int vehicle, int minutes) {
        Veh v = veh(vehicle);
        argument(in(minutes, 1, 60));
        if (v.left) {
            v.leftBegin += minutes;
            v.leftEnd += minutes;
            return v.leftEnd;
        }
        v.free = (v.free <= now ? now : v.free) + minutes;
        return v.free;
    }

    int mend(int vehicle) {
        Veh v = veh(vehicle);
        List<Integer> look = new ArrayList<>();
        for (int i = v.left ? 1 : 0; i < v.route.size(); i++) {
            if (!v.route.get(i).drop) look.add(v.route.get(i).request);
        }
        int moved = 0;
        for (int request : look) {
            List<Open> route = v.route;
            boolean fits = inTime(v, route, route.indexOf(new Open(request, false)))
                    && inTime(v, route, route.indexOf(new Open(request, true)));
            if (fits) continue;
            v.route = new ArrayList<>(route);
            v.route.removeIf(stop -> stop.request == request);
            if (put(request)) moved++;
            else v.route = route;
        }
        return moved;
    }

    // ---- questions

    private boolean owed(Rid who, int from, int to) {
        if (busStops.isEmpty()) return true;
        int first = busStops.stream().mapToInt(stop -> steps(stop, from)).min().getAsInt();
        int last = busStops.stream().mapToInt(stop -> steps(stop, to)).min().getAsInt();
        int can = winter && who.kind > 0 ? who.walk / 2 : who.walk;
        return first + last > can;
    }

    boolean owes(int rider, int from, int to) {
        Rid who = rid(rider);
        argument(in(from, 0, 35) && in(to, 0, 35));
        return owed(who, from, to);
    }

    int riderOf(int rider, int what) {
        rid(rider);
        argument(in(what, 0, 2));
        List<Req> his = requests.stream().filter(r -> r.rider == rider && r.status != 6 && day - r.day < 30).toList();
        int noShows = (int) his.stream().filter(r -> r.noShow).count();
        if (what == 0) return his.size();
        if (what == 1) return noShows;
        return noShows >= 3 && noShows * 5 >= his.size() ? 1 : 0;
    }

    static boolean late(Req r) {
        return r.pickBegan >= 0 && r.pickBegan - r.minute > 20;
    }

    static boolean tooLong(Req r) {
        return r.dropBegan >= 0 && r.dropBegan - r.pickEnded > 10 + 2 * minutes(r.from, r.to);
    }

    int requestOf(int request, int what) {
        Req r = req(request);
        argument(in(what, 0, 10));
        return new int[] {r.status, r.reason, r.minute, r.vehicle, r.pickBegan, r.pickEnded, r.dropBegan,
            late(r) ? 1 : 0, tooLong(r) ? 1 : 0, r.day, r.noShow ? 1 : 0}[what];
    }

    int vehicleOf(int vehicle, int what) {
        Veh v = veh(vehicle);
        argument(in(what, 0, 8));
        int seats = v.aboard.stream().mapToInt(r -> riders.get(requests.get(r).rider).seats()).sum();
        int chairs = (int) v.aboard.stream().filter(r -> riders.get(requests.get(r).rider).kind == 2).count();
        int back = v.route.isEmpty() ? -1 : plan(v, v.route)[v.route.size()][0];
        return new int[] {v.place, v.free, v.route.size(), seats, chairs, v.left ? 1 : 0, v.works ? 1 : 0,
            back, right(v, v.route) ? 1 : 0}[what];
    }

    int stopOf(int vehicle, int place, int what) {
        Veh v = veh(vehicle);
        index(in(place, 0, v.route.size() - 1));
        argument(in(what, 0, 3));
        Open stop = v.route.get(place);
        int[] minutes = plan(v, v.route)[place];
        return new int[] {stop.request, stop.drop ? 1 : 0, minutes[0], minutes[1]}[what];
    }

    int seatsAnew(int vehicle) {
        return veh(vehicle).seatsDone;
    }

    int drive(int vehicle) {
        Veh v = veh(vehicle);
        return driveOf(v, v.route);
    }

    int leastDrive(int vehicle) {
        Veh v = veh(vehicle);
        if (v.route.size() > 6) return -1;
        int[] least = {Integer.MAX_VALUE};
        List<Open> first = v.left ? v.route.subList(0, 1) : List.of();
        List<Open> rest = new ArrayList<>(v.route.subList(first.size(), v.route.size()));
        everyOrder(v, new ArrayList<>(first), rest, least);
        return least[0] == Integer.MAX_VALUE ? -1 : least[0];
    }

    private void everyOrder(Veh v, List<Open> route, List<Open> rest, int[] least) {
        if (rest.isEmpty()) {
            for (Open stop : route) {
                int pick = route.indexOf(new Open(stop.request, false));
                if (stop.drop && pick > route.indexOf(stop)) return;
            }
            if (right(v, route)) least[0] = Math.min(least[0], driveOf(v, route));
            return;
        }
        for (Open next : rest) {
            List<Open> longer = new ArrayList<>(route);
            longer.add(next);
            List<Open> fewer = new ArrayList<>(rest);
            fewer.remove(next);
            everyOrder(v, longer, fewer, least);
        }
    }

    int patterns() {
        List<Req> last = requests.stream().filter(r -> day - r.day < 20).toList();
        long noRoom = last.stream().filter(r -> r.reason == 3).count();
        long all = last.stream().filter(r -> r.reason == 0 || r.reason == 3).count();
        long served = last.stream().filter(r -> r.status == 2).count();
        long bad = last.stream().filter(r -> r.status == 2 && (late(r) || tooLong(r))).count();
        return (noRoom >= 2 && noRoom > all / 20 ? 1 : 0) + (bad > served / 10 ? 2 : 0);
    }

    int count(int what) {
        argument(in(what, 0, 9));
        return (int) requests.stream().filter(r -> what == 7 ? late(r) : what == 8 ? tooLong(r)
                : what == 9 ? r.noShow : r.status == what).count();
    }

    long money() {
        return requests.stream().filter(r -> r.status == 2 && !late(r) && !tooLong(r))
                .mapToLong(r -> 200 + 20 * steps(r.from, r.to)).sum();
    }
}
