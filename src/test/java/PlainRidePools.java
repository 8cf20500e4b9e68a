import java.util.ArrayList;
import java.util.Arrays;
import java.util.List;

/**
 * The document once more, written as slowly and as near to its words as can be, for RandomRunsTest to compare with:
 * every WAY, every begin, every PARTING is gone through, and of what can be worked out only LEAST is kept.
 */
final class PlainRidePools {
    static final class Someone {
        int kind, house, work, early, late, detour, seats, points;
        boolean away, broken;
    }

    static final class Ride {
        int[] picks;
        int[] drops;
        int begin;
        int minutes;
    }

    static final class Pool {
        int set;
        int driver;
        int minutes;
        int[] pickedAt = new int[9];
        int[] workAt = new int[9];
    }

    private final int[][] roads = new int[10][10];
    private final int[][] far = new int[10][10];
    private final List<Someone> people = new ArrayList<>();
    private final boolean[][] bars = new boolean[9][9];
    private final int[] refused = new int[7];
    private List<Pool> planned = null;
    private int plannedLeft = 0;
    private int mornings = 0;

    PlainRidePools() {
        for (int[] row : roads) {
            Arrays.fill(row, 300);
        }
        measure();
    }

    private void measure() {
        for (int from = 0; from < 10; from++) {
            for (int to = 0; to < 10; to++) far[from][to] = shortest(from, to);
        }
    }

    private int no(int code) {
        refused[-code]++;
        return code;
    }

    private boolean stop(int s) {
        return 0 <= s && s <= 9;
    }

    private boolean known(int p) {
        return 0 <= p && p < people.size();
    }

    private static boolean in(int set, int p) {
        return ((set >> p) & 1) == 1;
    }

    int minutes(int from, int to, int n) {
        if (!stop(from) || !stop(to) || from == to) return no(-1);
        if (n < 0) return no(-4);
        if (n > 300) return no(-6);
        int was = roads[from][to];
        roads[from][to] = n;
        measure();
        return was;
    }

    private int shortest(int from, int to) {
        int[] fewest = new int[10];
        Arrays.fill(fewest, 1 << 20);
        fewest[from] = 0;
        for (int round = 0; round < 10; round++) {
            for (int a = 0; a < 10; a++) {
                for (int b = 0; b < 10; b++) {
                    if (a != b) fewest[b] = Math.min(fewest[b], fewest[a] + roads[a][b]);
                }
            }
        }
        return fewest[to];
    }

    int least(int from, int to) {
        return stop(from) && stop(to) ? shortest(from, to) : no(-1);
    }

    int person(int kind, int house, int work, int early, int late, int detour, int seats) {
        if (!stop(house) || !stop(work) || house == work) return no(-1);
        if (kind < 0 || kind > 1) return no(-2);
        if (Math.min(Math.min(early, late), Math.min(detour, seats)) < 0) return no(-4);
        if (Math.max(early, late) > 1440 || detour > 300 || seats > 5 || people.size() == 9) return no(-6);
        Someone one = new Someone();
        one.kind = kind;
        one.house = house;
        one.work = work;
        one.early = early;
        one.late = late;
        one.detour = detour;
        one.seats = seats;
        people.add(one);
        return people.size() - 1;
    }

    int times(int p, int early, int late) {
        if (!known(p)) return no(-1);
        if (early < 0 || late < 0) return no(-4);
        if (early > 1440 || late > 1440) return no(-6);
        people.get(p).early = early;
        people.get(p).late = late;
        return 1;
    }

    int bar(int p, int q, boolean on) {
        if (!known(p) || !known(q) || p == q) return no(-1);
        if (bars[p][q] == on) return 0;
        bars[p][q] = on;
        bars[q][p] = on;
        return 1;
    }

    int away(int p, boolean on) {
        if (!known(p)) return no(-1);
        boolean was = people.get(p).away;
        people.get(p).away = on;
        return was == on ? 0 : 1;
    }

    int broken(int p, boolean on) {
        if (!known(p)) return no(-1);
        boolean was = people.get(p).broken;
        people.get(p).broken = on;
        return was == on ? 0 : 1;
    }

    private int wrongSet(int set) {
        if (set <= 0 || set >= 1 << people.size() || Integer.bitCount(set) > 4) return -1;
        return hasAway(set) ? -3 : 0;
    }

    private int wrongRide(int set, int driver) {
        if (!known(driver) || !in(set, driver)) return -1;
        return wrongSet(set);
    }

    private boolean hasAway(int set) {
        for (int p = 0; p < people.size(); p++) {
            if (in(set, p) && people.get(p).away) return true;
        }
        return false;
    }

    private static List<Integer> list(int set) {
        List<Integer> all = new ArrayList<>();
        for (int p = 0; p < 9; p++) {
            if (in(set, p)) all.add(p);
        }
        return all;
    }

    /** All orders, the first one first. */
    private static List<int[]> orders(List<Integer> who) {
        List<int[]> all = new ArrayList<>();
        if (who.isEmpty()) {
            all.add(new int[0]);
            return all;
        }
        for (Integer head : who) {
            List<Integer> rest = new ArrayList<>(who);
            rest.remove(head);
            for (int[] tail : orders(rest)) {
                int[] order = new int[tail.length + 1];
                order[0] = head;
                System.arraycopy(tail, 0, order, 1, tail.length);
                all.add(order);
            }
        }
        return all;
    }

    private int reasonBesideWay(int set, int driver) {
        Someone d = people.get(driver);
        if (d.seats == 0 || d.broken) return 1;
        int seats = 0;
        for (int p : list(set)) seats += 1 + people.get(p).kind;
        if (seats > d.seats) return 2;
        for (int p : list(set)) {
            for (int q : list(set)) {
                if (bars[p][q]) return 3;
            }
        }
        return 0;
    }

    private int reason(int set, int driver) {
        int beside = reasonBesideWay(set, driver);
        return beside != 0 ? beside : ride(set, driver) == null ? 4 : 0;
    }

    private Ride ride(int set, int driver) {
        Ride best = null;
        for (int[] picks : orders(list(set))) {
            if (picks[0] != driver) continue;
            for (int[] drops : orders(list(set))) {
                Ride ride = timed(picks, drops);
                if (ride != null && (best == null || ride.minutes < best.minutes)) best = ride;
            }
        }
        return best;
    }

    private Ride timed(int[] picks, int[] drops) {
        int[] picked = new int[9];
        int[] dropped = new int[9];
        int clock = 0;
        int at = people.get(picks[0]).house;
        for (int p : picks) {
            clock += far[at][people.get(p).house];
            at = people.get(p).house;
            picked[p] = clock;
        }
        for (int p : drops) {
            clock += far[at][people.get(p).work];
            at = people.get(p).work;
            dropped[p] = clock;
        }
        for (int p : picks) {
            Someone one = people.get(p);
            if (dropped[p] - picked[p] > far[one.house][one.work] + one.detour) return null;
        }
        for (int begin = 1440; begin >= 0; begin--) {
            boolean good = true;
            for (int p : picks) {
                Someone one = people.get(p);
                good &= begin + picked[p] >= one.early && begin + dropped[p] <= one.late;
            }
            if (good) {
                Ride ride = new Ride();
                ride.picks = picks;
                ride.drops = drops;
                ride.begin = begin;
                ride.minutes = clock;
                return ride;
            }
        }
        return null;
    }

    private Ride fitting(int set, int driver) {
        return reasonBesideWay(set, driver) == 0 ? ride(set, driver) : null;
    }

    int fits(int set, int driver) {
        if (wrongRide(set, driver) != 0) return no(wrongRide(set, driver));
        Ride ride = fitting(set, driver);
        return ride == null ? -9 : ride.minutes;
    }

    int why(int set, int driver) {
        if (wrongRide(set, driver) != 0) return no(wrongRide(set, driver));
        return reason(set, driver);
    }

    int way(int set, int driver, int what) {
        if (wrongRide(set, driver) != 0) return no(wrongRide(set, driver));
        Ride ride = fitting(set, driver);
        if (ride == null) return -9;
        if (what == 0) return ride.begin;
        if (what == 1) return ride.begin + ride.minutes;
        for (int i = 0; i < Integer.bitCount(set); i++) {
            if (what == 2 + i) return ride.picks[i];
            if (what == 12 + i) return ride.drops[i];
        }
        return -9;
    }

    private int cheapest(int set) {
        int best = -9;
        int fewest = Integer.MAX_VALUE;
        for (int p : list(set)) {
            Ride ride = fitting(set, p);
            if (ride != null && ride.minutes < fewest) {
                fewest = ride.minutes;
                best = p;
            }
        }
        return best;
    }

    int cost(int set) {
        if (wrongSet(set) != 0) return no(wrongSet(set));
        int d = cheapest(set);
        return d == -9 ? -9 : fitting(set, d).minutes;
    }

    int driver(int set) {
        if (wrongSet(set) != 0) return no(wrongSet(set));
        return cheapest(set);
    }

    private int next(int set) {
        int best = -9;
        for (int p : list(set)) {
            if (fitting(set, p) != null && (best == -9 || people.get(p).points < people.get(best).points)) best = p;
        }
        return best;
    }

    int turn(int set) {
        if (wrongSet(set) != 0) return no(wrongSet(set));
        return next(set);
    }

    /** All PARTINGS are made and compared as wholes; a PARTING is the set of each PERSON. */
    private final class Partings {
        final List<Integer> here = new ArrayList<>();
        final int[] costs = new int[512];
        int[] best = null;
        int[] bestNumbers = null;
        int fewestPools = -9;

        Partings() {
            for (int p = 0; p < people.size(); p++) {
                if (!people.get(p).away) here.add(p);
            }
            int all = 0;
            for (int p : here) all |= 1 << p;
            for (int set = 1; set < 512; set++) {
                costs[set] = -9;
                if ((set & ~all) == 0 && Integer.bitCount(set) <= 4) {
                    int d = cheapest(set);
                    if (d != -9) costs[set] = fitting(set, d).minutes;
                }
            }
            part(0, new ArrayList<>(), 0);
        }

        void part(int i, List<Integer> pools, int left) {
            if (i == here.size()) {
                look(pools, left);
                return;
            }
            int bit = 1 << here.get(i);
            part(i + 1, pools, left | bit);
            for (int k = 0; k < pools.size(); k++) {
                int was = pools.get(k);
                if (Integer.bitCount(was) < 4) {
                    pools.set(k, was | bit);
                    part(i + 1, pools, left);
                    pools.set(k, was);
                }
            }
            pools.add(bit);
            part(i + 1, pools, left);
            pools.remove(pools.size() - 1);
        }

        void look(List<Integer> pools, int left) {
            int minutes = 0;
            int[] sets = new int[9];
            for (int pool : pools) {
                if (costs[pool] == -9) return;
                minutes += costs[pool];
                for (int p : list(pool)) sets[p] = pool;
            }
            if (left == 0 && (fewestPools == -9 || pools.size() < fewestPools)) fewestPools = pools.size();
            int[] numbers = {Integer.bitCount(left), minutes, pools.size()};
            int order = best == null ? -1 : Arrays.compare(numbers, bestNumbers);
            if (order == 0) order = Arrays.compare(sets, best);
            if (order < 0) {
                best = sets;
                bestNumbers = numbers;
            }
        }
    }

    private Pool pool(int set, int driver) {
        Ride ride = fitting(set, driver);
        if (ride == null) return null;
        Pool pool = new Pool();
        pool.set = set;
        pool.driver = driver;
        pool.minutes = ride.minutes;
        int clock = ride.begin;
        int at = people.get(driver).house;
        for (int p : ride.picks) {
            clock += shortest(at, people.get(p).house);
            at = people.get(p).house;
            pool.pickedAt[p] = clock;
        }
        for (int p : ride.drops) {
            clock += shortest(at, people.get(p).work);
            at = people.get(p).work;
            pool.workAt[p] = clock;
        }
        return pool;
    }

    int plan() {
        Partings partings = new Partings();
        planned = new ArrayList<>();
        plannedLeft = 0;
        for (int p : partings.here) {
            int set = partings.best[p];
            if (set == 0) plannedLeft |= 1 << p;
            else if (Integer.numberOfTrailingZeros(set) == p) planned.add(pool(set, cheapest(set)));
        }
        return planned.size();
    }

    private int plannedMinutes() {
        int sum = 0;
        for (Pool pool : planned) sum += pool.minutes;
        return sum;
    }

    int planOf(int what) {
        if (planned == null) return no(-3);
        if (what == 0) return planned.size();
        if (what == 1) return Integer.bitCount(plannedLeft);
        if (what == 2) return plannedMinutes();
        if (what != 3) return no(-2);
        int sum = 0;
        for (Pool pool : planned) sum += Integer.bitCount(pool.set);
        return sum;
    }

    int poolOf(int p, int what) {
        if (planned == null) return no(-3);
        if (!known(p)) return no(-1);
        if (what < 0 || what > 3) return no(-2);
        for (Pool pool : planned) {
            if (in(pool.set, p)) {
                return new int[] {pool.set, pool.driver, pool.pickedAt[p], pool.workAt[p]}[what];
            }
        }
        return what == 0 ? 0 : -9;
    }

    int same() {
        if (planned == null) return no(-3);
        int[] numbers = {Integer.bitCount(plannedLeft), plannedMinutes(), planned.size()};
        return Arrays.equals(numbers, new Partings().bestNumbers) ? 1 : 0;
    }

    int even() {
        if (planned == null) return no(-3);
        int changed = 0;
        for (int k = 0; k < planned.size(); k++) {
            Pool was = planned.get(k);
            if (hasAway(was.set) || next(was.set) == -9) continue;
            planned.set(k, pool(was.set, next(was.set)));
            if (planned.get(k).driver != was.driver) changed++;
        }
        return changed;
    }

    int mornings(int n) {
        if (planned == null) return no(-3);
        if (n < 1) return no(-4);
        if (n > 1000) return no(-6);
        for (int i = 0; i < n; i++) {
            mornings++;
            for (Pool pool : planned) {
                for (int p : list(pool.set)) {
                    if (p == pool.driver) continue;
                    people.get(p).points--;
                    people.get(pool.driver).points++;
                }
            }
        }
        return n;
    }

    int fail(int p) {
        if (planned == null) return no(-3);
        if (!known(p)) return no(-1);
        people.get(p).broken = true;
        Pool gone = null;
        for (Pool pool : planned) {
            if (pool.driver == p) gone = pool;
        }
        if (gone == null) return 0;
        planned.remove(gone);
        int left = 0;
        for (int q : list(gone.set)) {
            if (people.get(q).away || !placed(q)) {
                plannedLeft |= 1 << q;
                left++;
            }
        }
        return left;
    }

    private boolean placed(int q) {
        planned.sort((a, b) -> Integer.compare(a.set & -a.set, b.set & -b.set));
        for (int k = 0; k < planned.size(); k++) {
            Pool was = planned.get(k);
            if (Integer.bitCount(was.set) == 4 || hasAway(was.set)) continue;
            Pool with = pool(was.set | 1 << q, was.driver);
            if (with != null) {
                planned.set(k, with);
                return true;
            }
        }
        Pool own = pool(1 << q, q);
        if (own != null) planned.add(own);
        return own != null;
    }

    int few() {
        return new Partings().fewestPools;
    }

    int personOf(int p, int what) {
        if (!known(p)) return no(-1);
        Someone one = people.get(p);
        int barred = 0;
        for (int q = 0; q < 9; q++) {
            if (bars[p][q]) barred += 1 << q;
        }
        int[] all = {one.kind, one.house, one.work, one.early, one.late, one.detour, one.seats,
            one.away ? 1 : 0, one.broken ? 1 : 0, barred, shortest(one.house, one.work), 1000000000 + one.points};
        return what >= 0 && what < all.length ? all[what] : no(-2);
    }

    int count(int what) {
        int here = 0;
        int cars = 0;
        for (Someone one : people) {
            if (!one.away) here++;
            if (one.seats > 0 && !one.broken) cars++;
        }
        switch (what) {
            case 0: return people.size();
            case 1: return here;
            case 2: return cars;
            case 3: return planned == null ? 0 : 1;
            case 4: return mornings;
            default: return what >= 11 && what <= 16 ? refused[what - 10] : -9;
        }
    }
}
