import java.util.Arrays;

/** Neighbours who share cars in the morning. The document is ../shared/DOC.md; its words in capitals are used here. */
public final class RidePools {
    private static final int STOPS = 10;
    private static final int MOST_MINUTES = 300;
    private static final int MOST_PERSONS = 9;
    private static final int SETS = 1 << MOST_PERSONS;
    private static final int MOST_IN_POOL = 4;
    private static final int LAST_MINUTE = 1440;
    private static final int MOST_DETOUR = 300;
    private static final int MOST_SEATS = 5;
    private static final int MOST_MORNINGS = 1000;
    private static final int POINTS_BASE = 1000000000;

    private static final int RIDER = 0;
    private static final int CHAIR = 1;

    private static final int FINE = 0;
    private static final int NOBODY = -1;
    private static final int OTHER = -2;
    private static final int STATE = -3;
    private static final int BELOW = -4;
    private static final int ROOM = -6;
    private static final int NONE = -9;
    private static final int REFUSAL_KINDS = 6;

    private static final int IT_FITS = 0;
    private static final int NO_CAR = 1;
    private static final int NO_SEATS = 2;
    private static final int BARRED = 3;
    private static final int NO_WAY = 4;

    private final Roads roads;
    private final People people;
    private final WayFinder finder;
    private final Costs costs;
    private final Parting parting;
    private final Plan current;
    private final int[] refusals;
    private int morningsSoFar;

    public RidePools() {
        roads = new Roads();
        people = new People();
        finder = new WayFinder(roads, people);
        costs = new Costs(finder);
        parting = new Parting(costs);
        current = new Plan();
        refusals = new int[REFUSAL_KINDS + 1];
        morningsSoFar = 0;
    }

    public int minutes(int from, int to, int n) {
        if (!isStop(from) || !isStop(to) || from == to) {
            return refuse(NOBODY);
        }
        if (n < 0) {
            return refuse(BELOW);
        }
        if (n > MOST_MINUTES) {
            return refuse(ROOM);
        }
        int before = roads.change(from, to, n);
        if (before != n) {
            costs.forgetWith(0);
        }
        return before;
    }

    public int least(int from, int to) {
        if (!isStop(from) || !isStop(to)) {
            return refuse(NOBODY);
        }
        return roads.shortest(from, to);
    }

    public int person(int kind, int house, int work, int early, int late, int detour, int seats) {
        if (!isStop(house) || !isStop(work) || house == work) {
            return refuse(NOBODY);
        }
        if (kind != RIDER && kind != CHAIR) {
            return refuse(OTHER);
        }
        if (early < 0 || late < 0 || detour < 0 || seats < 0) {
            return refuse(BELOW);
        }
        if (early > LAST_MINUTE || late > LAST_MINUTE || detour > MOST_DETOUR || seats > MOST_SEATS || people.isFull()) {
            return refuse(ROOM);
        }
        int p = people.addOne();
        Person made = people.at(p);
        made.kind = kind;
        made.house = house;
        made.work = work;
        made.early = early;
        made.late = late;
        made.detour = detour;
        made.seats = seats;
        return p;
    }

    public int times(int p, int early, int late) {
        if (!people.has(p)) {
            return refuse(NOBODY);
        }
        if (early < 0 || late < 0) {
            return refuse(BELOW);
        }
        if (early > LAST_MINUTE || late > LAST_MINUTE) {
            return refuse(ROOM);
        }
        people.at(p).early = early;
        people.at(p).late = late;
        costs.forgetWith(1 << p);
        return 1;
    }

    public int bar(int p, int q, boolean on) {
        if (!people.has(p) || !people.has(q) || p == q) {
            return refuse(NOBODY);
        }
        if (contains(people.at(p).bars, q) == on) {
            return 0;
        }
        people.at(p).bars ^= 1 << q;
        people.at(q).bars ^= 1 << p;
        costs.forgetWith(1 << p | 1 << q);
        return 1;
    }

    public int away(int p, boolean on) {
        if (!people.has(p)) {
            return refuse(NOBODY);
        }
        if (people.at(p).isAway == on) {
            return 0;
        }
        people.at(p).isAway = on;
        return 1;
    }

    public int broken(int p, boolean on) {
        if (!people.has(p)) {
            return refuse(NOBODY);
        }
        return setBroken(p, on) ? 1 : 0;
    }

    public int fits(int set, int driver) {
        int wrong = wrongRide(set, driver);
        if (wrong != FINE) {
            return refuse(wrong);
        }
        return finder.reasonAgainst(set, driver) == IT_FITS ? finder.found().taken : NONE;
    }

    public int why(int set, int driver) {
        int wrong = wrongRide(set, driver);
        if (wrong != FINE) {
            return refuse(wrong);
        }
        return finder.reasonAgainst(set, driver);
    }

    public int way(int set, int driver, int what) {
        int wrong = wrongRide(set, driver);
        if (wrong != FINE) {
            return refuse(wrong);
        }
        if (finder.reasonAgainst(set, driver) != IT_FITS) {
            return NONE;
        }
        return finder.found().tell(what);
    }

    public int cost(int set) {
        int wrong = wrongSet(set);
        if (wrong != FINE) {
            return refuse(wrong);
        }
        costs.learn(set);
        return costs.minutesFor(set);
    }

    public int driver(int set) {
        int wrong = wrongSet(set);
        if (wrong != FINE) {
            return refuse(wrong);
        }
        costs.learn(set);
        return costs.driverFor(set);
    }

    public int turn(int set) {
        int wrong = wrongSet(set);
        if (wrong != FINE) {
            return refuse(wrong);
        }
        return whoseTurn(set);
    }

    public int plan() {
        int here = people.notAway();
        costs.learnAll(here);
        parting.findBest(here);
        current.begin();
        int open = here;
        for (int p = 0; p < MOST_PERSONS; p++) {
            if (contains(open, p)) {
                int pool = parting.choiceFor(open);
                takeIntoPlan(p, pool);
                open &= ~(pool | 1 << p);
            }
        }
        return current.pools();
    }

    public int planOf(int what) {
        if (!current.isMade()) {
            return refuse(STATE);
        }
        switch (what) {
            case 0: return current.pools();
            case 1: return current.leftCount();
            case 2: return current.minutesTogether();
            case 3: return current.personsInPools();
            default: return refuse(OTHER);
        }
    }

    public int poolOf(int p, int what) {
        if (!current.isMade()) {
            return refuse(STATE);
        }
        if (!people.has(p)) {
            return refuse(NOBODY);
        }
        if (what < 0 || what > 3) {
            return refuse(OTHER);
        }
        return current.tell(p, what);
    }

    public int same() {
        if (!current.isMade()) {
            return refuse(STATE);
        }
        int here = people.notAway();
        costs.learnAll(here);
        int best = parting.findBest(here);
        int now = Parting.worthOf(current.leftCount(), current.minutesTogether(), current.pools());
        return best == now ? 1 : 0;
    }

    public int even() {
        if (!current.isMade()) {
            return refuse(STATE);
        }
        int changed = 0;
        for (int first = 0; first < MOST_PERSONS; first++) {
            if (current.leads(first) && evenOut(current.poolAt(first), current.driverAt(first))) {
                changed++;
            }
        }
        return changed;
    }

    public int mornings(int n) {
        if (!current.isMade()) {
            return refuse(STATE);
        }
        if (n < 1) {
            return refuse(BELOW);
        }
        if (n > MOST_MORNINGS) {
            return refuse(ROOM);
        }
        for (int p = 0; p < MOST_PERSONS; p++) {
            people.at(p).points += n * current.pointsEachMorning(p);
        }
        morningsSoFar += n;
        return n;
    }

    public int fail(int p) {
        if (!current.isMade()) {
            return refuse(STATE);
        }
        if (!people.has(p)) {
            return refuse(NOBODY);
        }
        setBroken(p, true);
        if (!current.drives(p)) {
            return 0;
        }
        int pool = current.poolAt(p);
        current.dissolve(pool);
        int left = 0;
        for (int q = 0; q < MOST_PERSONS; q++) {
            if (contains(pool, q) && !findPlace(q)) {
                current.leave(q);
                left++;
            }
        }
        return left;
    }

    public int few() {
        int here = people.notAway();
        costs.learnAll(here);
        return parting.fewestPools(here);
    }

    public int personOf(int p, int what) {
        if (!people.has(p)) {
            return refuse(NOBODY);
        }
        Person one = people.at(p);
        switch (what) {
            case 0: return one.kind;
            case 1: return one.house;
            case 2: return one.work;
            case 3: return one.early;
            case 4: return one.late;
            case 5: return one.detour;
            case 6: return one.seats;
            case 7: return one.isAway ? 1 : 0;
            case 8: return one.isBroken ? 1 : 0;
            case 9: return one.bars;
            case 10: return roads.shortest(one.house, one.work);
            case 11: return POINTS_BASE + one.points;
            default: return refuse(OTHER);
        }
    }

    public int count(int what) {
        switch (what) {
            case 0: return people.size();
            case 1: return Integer.bitCount(people.notAway());
            case 2: return people.withCar();
            case 3: return current.isMade() ? 1 : 0;
            case 4: return morningsSoFar;
            default: return what > 10 && what <= 10 + REFUSAL_KINDS ? refusals[what - 10] : NONE;
        }
    }

    private int refuse(int refusal) {
        refusals[-refusal]++;
        return refusal;
    }

    private static boolean isStop(int stop) {
        return stop >= 0 && stop < STOPS;
    }

    private static boolean contains(int set, int p) {
        return (set >> p & 1) != 0;
    }

    private int wrongSet(int set) {
        if (!people.hasAll(set) || Integer.bitCount(set) > MOST_IN_POOL) {
            return NOBODY;
        }
        return people.someAway(set) ? STATE : FINE;
    }

    private int wrongRide(int set, int driver) {
        if (!people.has(driver) || !contains(set, driver)) {
            return NOBODY;
        }
        return wrongSet(set);
    }

    /** Answers whether that was a change. */
    private boolean setBroken(int p, boolean on) {
        if (people.at(p).isBroken == on) {
            return false;
        }
        people.at(p).isBroken = on;
        costs.forgetWith(1 << p);
        return true;
    }

    private int whoseTurn(int set) {
        int best = NONE;
        for (int p = 0; p < MOST_PERSONS; p++) {
            boolean fewer = best == NONE || people.at(p).points < people.at(best).points;
            if (contains(set, p) && fewer && finder.reasonAgainst(set, p) == IT_FITS) {
                best = p;
            }
        }
        return best;
    }

    private void takeIntoPlan(int p, int pool) {
        if (pool == 0) {
            current.leave(p);
        } else {
            putIntoPlan(pool, costs.driverFor(pool));
        }
    }

    /** Answers whether the set FITS the driver; if it does, it is a POOL of THE PLAN with the WAY as it is now. */
    private boolean putIntoPlan(int pool, int driver) {
        if (finder.reasonAgainst(pool, driver) != IT_FITS) {
            return false;
        }
        current.put(pool, driver, finder.found());
        return true;
    }

    /** Answers whether the POOL has another driver than before. */
    private boolean evenOut(int pool, int driverBefore) {
        if (people.someAway(pool)) {
            return false;
        }
        int next = whoseTurn(pool);
        if (next == NONE) {
            return false;
        }
        // The WAY is taken anew for the same driver too: "the WAY for them as it is now".
        putIntoPlan(pool, next);
        return next != driverBefore;
    }

    /** A place in THE PLAN for one whose POOL is no more; answers whether there is one. */
    private boolean findPlace(int q) {
        if (people.at(q).isAway) {
            return false;
        }
        for (int first = 0; first < MOST_PERSONS; first++) {
            if (isOpen(first) && putIntoPlan(current.poolAt(first) | 1 << q, current.driverAt(first))) {
                return true;
            }
        }
        return putIntoPlan(1 << q, q);
    }

    /** Whether the POOL of THE PLAN of which this is the least PERSON, if there is one, may take in another. */
    private boolean isOpen(int first) {
        int pool = current.poolAt(first);
        return current.leads(first) && !people.someAway(pool) && Integer.bitCount(pool) < MOST_IN_POOL;
    }

    /** MINUTES and LEAST between STOPS. */
    private static final class Roads {
        private final int[][] direct = new int[STOPS][STOPS];
        private final int[][] fewest = new int[STOPS][STOPS];

        Roads() {
            for (int from = 0; from < STOPS; from++) {
                Arrays.fill(direct[from], MOST_MINUTES);
                direct[from][from] = 0;
            }
            renew();
        }

        int shortest(int from, int to) {
            return fewest[from][to];
        }

        /** Answers what the MINUTES were. */
        int change(int from, int to, int n) {
            int before = direct[from][to];
            direct[from][to] = n;
            if (before != n) {
                renew();
            }
            return before;
        }

        private void renew() {
            for (int from = 0; from < STOPS; from++) {
                System.arraycopy(direct[from], 0, fewest[from], 0, STOPS);
            }
            for (int by = 0; by < STOPS; by++) {
                for (int from = 0; from < STOPS; from++) {
                    shortenBy(by, fewest[from]);
                }
            }
        }

        private void shortenBy(int by, int[] row) {
            for (int to = 0; to < STOPS; to++) {
                row[to] = Math.min(row[to], row[by] + fewest[by][to]);
            }
        }
    }

    private static final class Person {
        private int kind;
        private int house;
        private int work;
        private int early;
        private int late;
        private int detour;
        private int seats;
        private boolean isAway;
        private boolean isBroken;
        private int bars;
        private int points;

        boolean hasCar() {
            return seats > 0 && !isBroken;
        }

        int seatsTaken() {
            return kind == CHAIR ? 2 : 1;
        }
    }

    /** All nine places for PERSONS are made at once, so that none is ever null. */
    private static final class People {
        private final Person[] all = new Person[MOST_PERSONS];
        private int size;

        People() {
            for (int p = 0; p < MOST_PERSONS; p++) {
                all[p] = new Person();
            }
            size = 0;
        }

        int size() {
            return size;
        }

        boolean isFull() {
            return size >= MOST_PERSONS;
        }

        boolean has(int p) {
            return p >= 0 && p < size;
        }

        /** Whether the set has somebody, and nobody that there is not. */
        boolean hasAll(int set) {
            return set > 0 && set >> size == 0;
        }

        Person at(int p) {
            return all[p];
        }

        int addOne() {
            size++;
            return size - 1;
        }

        int notAway() {
            int here = 0;
            for (int p = 0; p < size; p++) {
                if (!all[p].isAway) {
                    here |= 1 << p;
                }
            }
            return here;
        }

        boolean someAway(int set) {
            return (set & ~notAway()) != 0;
        }

        int withCar() {
            int cars = 0;
            for (int p = 0; p < size; p++) {
                if (all[p].hasCar()) {
                    cars++;
                }
            }
            return cars;
        }

        boolean seatsSuffice(int set, int driver) {
            int taken = 0;
            for (int p = 0; p < size; p++) {
                if (contains(set, p)) {
                    taken += all[p].seatsTaken();
                }
            }
            return taken <= all[driver].seats;
        }

        boolean hasBar(int set) {
            for (int p = 0; p < size; p++) {
                if (contains(set, p) && (all[p].bars & set) != 0) {
                    return true;
                }
            }
            return false;
        }
    }

    /** A WAY of a set: its PERSONS stand in members, by numbers; all else names them by their place there. */
    private static final class Way {
        private int size;
        private final int[] members = new int[MOST_IN_POOL];
        private final int[] picked = new int[MOST_IN_POOL];
        private final int[] brought = new int[MOST_IN_POOL];
        private final int[] pickedAfter = new int[MOST_IN_POOL];
        private final int[] broughtAfter = new int[MOST_IN_POOL];
        private int taken;
        private int begin;

        void copyOf(Way other) {
            size = other.size;
            taken = other.taken;
            begin = other.begin;
            for (int i = 0; i < MOST_IN_POOL; i++) {
                members[i] = other.members[i];
                picked[i] = other.picked[i];
                brought[i] = other.brought[i];
                pickedAfter[i] = other.pickedAfter[i];
                broughtAfter[i] = other.broughtAfter[i];
            }
        }

        /** What way() answers. */
        int tell(int what) {
            if (what == 0) {
                return begin;
            }
            if (what == 1) {
                return begin + taken;
            }
            if (what >= 2 && what < 2 + size) {
                return members[picked[what - 2]];
            }
            if (what >= 12 && what < 12 + size) {
                return members[brought[what - 12]];
            }
            return NONE;
        }
    }

    /** Goes through the WAYS of a set with a driver, and keeps the one that is found until it is asked again. */
    private static final class WayFinder {
        /** More MINUTES than any WAY that FITS can take. */
        private static final int NOT_FOUND = LAST_MINUTE + 1;

        private final Roads roads;
        private final People people;
        private final Way trial = new Way();
        private final Way found = new Way();
        private final int[] house = new int[MOST_IN_POOL];
        private final int[] work = new int[MOST_IN_POOL];
        private final int[] early = new int[MOST_IN_POOL];
        private final int[] late = new int[MOST_IN_POOL];
        private final int[] longest = new int[MOST_IN_POOL];

        WayFinder(Roads roads, People people) {
            this.roads = roads;
            this.people = people;
            found.taken = NOT_FOUND;
        }

        /** What why() answers; the set has 1 to 4 PERSONS, the driver among them. */
        int reasonAgainst(int set, int driver) {
            if (!people.has(driver) || !people.at(driver).hasCar()) {
                return NO_CAR;
            }
            if (!people.seatsSuffice(set, driver)) {
                return NO_SEATS;
            }
            if (people.hasBar(set)) {
                return BARRED;
            }
            load(set);
            int first = Integer.bitCount(set & ((1 << driver) - 1));
            trial.picked[0] = first;
            trial.pickedAfter[first] = 0;
            found.taken = NOT_FOUND;
            pickNext(1, allPlaces() & ~(1 << first), 0, early[first]);
            return found.taken == NOT_FOUND ? NO_WAY : IT_FITS;
        }

        Way found() {
            return found;
        }

        private void load(int set) {
            trial.size = 0;
            for (int p = 0; p < MOST_PERSONS; p++) {
                if (contains(set, p) && trial.size < MOST_IN_POOL) {
                    loadOne(trial.size, p);
                    trial.size++;
                }
            }
        }

        private void loadOne(int i, int p) {
            Person one = people.at(p);
            trial.members[i] = p;
            house[i] = one.house;
            work[i] = one.work;
            early[i] = one.early;
            late[i] = one.late;
            longest[i] = roads.shortest(one.house, one.work) + one.detour;
        }

        private int allPlaces() {
            return (1 << trial.size) - 1;
        }

        /** The orders are tried from the first one on, so only a shorter WAY takes the place of one that was found. */
        private void pickNext(int place, int waiting, int after, int earliest) {
            int stop = house[trial.picked[place - 1]];
            if (place >= trial.size) {
                bringNext(0, allPlaces(), stop, after, earliest, LAST_MINUTE);
                return;
            }
            for (int i = 0; i < trial.size; i++) {
                if (contains(waiting, i)) {
                    int then = after + roads.shortest(stop, house[i]);
                    if (then < found.taken) {
                        trial.picked[place] = i;
                        trial.pickedAfter[i] = then;
                        pickNext(place + 1, waiting & ~(1 << i), then, Math.max(earliest, early[i] - then));
                    }
                }
            }
        }

        /** The begin lies from earliest to latest, which narrow as the WAY grows. */
        private void bringNext(int place, int riding, int stop, int after, int earliest, int latest) {
            if (place >= trial.size) {
                trial.taken = after;
                trial.begin = latest;
                found.copyOf(trial);
                return;
            }
            for (int i = 0; i < trial.size; i++) {
                if (contains(riding, i)) {
                    int then = after + roads.shortest(stop, work[i]);
                    int latestThen = Math.min(latest, late[i] - then);
                    boolean bearable = then - trial.pickedAfter[i] <= longest[i];
                    if (bearable && then < found.taken && earliest <= latestThen) {
                        trial.brought[place] = i;
                        trial.broughtAfter[i] = then;
                        bringNext(place + 1, riding & ~(1 << i), work[i], then, earliest, latestThen);
                    }
                }
            }
        }
    }

    /** COSTS of sets, kept until something changes on which they hang: plan, same and few need them all. */
    private static final class Costs {
        private static final int UNKNOWN = -1;

        private final WayFinder finder;
        private final int[] fewest = new int[SETS];
        private final int[] drivers = new int[SETS];

        Costs(WayFinder finder) {
            this.finder = finder;
            Arrays.fill(fewest, UNKNOWN);
        }

        /** Of a set that was learnt: its COST, or NONE. */
        int minutesFor(int set) {
            return fewest[set];
        }

        /** Of a set that was learnt: who drives at its COST, or NONE. */
        int driverFor(int set) {
            return drivers[set];
        }

        /** Forgets the COSTS of all sets in which all of these PERSONS are. */
        void forgetWith(int persons) {
            for (int set = 0; set < SETS; set++) {
                if ((set & persons) == persons) {
                    fewest[set] = UNKNOWN;
                }
            }
        }

        void learnAll(int here) {
            for (int set = 1; set <= here; set++) {
                if ((set & ~here) == 0 && Integer.bitCount(set) <= MOST_IN_POOL) {
                    learn(set);
                }
            }
        }

        void learn(int set) {
            if (fewest[set] != UNKNOWN) {
                return;
            }
            fewest[set] = NONE;
            drivers[set] = NONE;
            for (int p = 0; p < MOST_PERSONS; p++) {
                if (contains(set, p) && finder.reasonAgainst(set, p) == IT_FITS) {
                    takeIfFewer(set, p, finder.found().taken);
                }
            }
        }

        private void takeIfFewer(int set, int driver, int taken) {
            if (fewest[set] == NONE || taken < fewest[set]) {
                fewest[set] = taken;
                drivers[set] = driver;
            }
        }
    }

    /**
     * THE BEST PARTING of every set of PERSONS, from the small sets to the great ones.
     * LEFT, MINUTES and POOLS stand in one number, the worth: the lesser the better.
     */
    private static final class Parting {
        /** Above nine POOLS. */
        private static final int MINUTE_WORTH = 10;
        /** Above nine POOLS of 1440 MINUTES. */
        private static final int LEFT_WORTH = 1000000;

        private final Costs costs;
        private final int[] worth = new int[SETS];
        private final int[] choice = new int[SETS];

        Parting(Costs costs) {
            this.costs = costs;
        }

        static int worthOf(int left, int minutesTogether, int pools) {
            return left * LEFT_WORTH + minutesTogether * MINUTE_WORTH + pools;
        }

        /** Answers the worth of THE BEST; choiceFor() tells its POOLS then. */
        int findBest(int here) {
            return findAll(here, MINUTE_WORTH);
        }

        int fewestPools(int here) {
            int found = findAll(here, 0);
            return found < LEFT_WORTH ? found : NONE;
        }

        /** The POOL of the first PERSON of a set in the set's BEST PARTING: 0 if it is LEFT. */
        int choiceFor(int set) {
            return choice[set];
        }

        private int findAll(int here, int minuteWorth) {
            worth[0] = 0;
            for (int set = 1; set <= here; set++) {
                if ((set & ~here) == 0) {
                    choose(set, minuteWorth);
                }
            }
            return worth[here];
        }

        /** The first PERSON is LEFT, or in a POOL: the POOLS are tried from the least on, so only a better one is taken. */
        private void choose(int set, int minuteWorth) {
            int first = set & -set;
            int rest = set & ~first;
            worth[set] = worth[rest] + LEFT_WORTH;
            choice[set] = 0;
            int parts = 1 << Integer.bitCount(rest);
            int others = 0;
            for (int i = 0; i < parts; i++) {
                tryPool(set, first | others, minuteWorth);
                // The next greater set of bits out of rest.
                others = (others - rest) & rest;
            }
        }

        private void tryPool(int set, int pool, int minuteWorth) {
            if (Integer.bitCount(pool) > MOST_IN_POOL) {
                return;
            }
            int taken = costs.minutesFor(pool);
            if (taken < 0) {
                return;
            }
            int all = worth[set & ~pool] + taken * minuteWorth + 1;
            if (all < worth[set]) {
                worth[set] = all;
                choice[set] = pool;
            }
        }
    }

    /** THE PLAN: of each PERSON its POOL, who drives it, and when. */
    private static final class Plan {
        private boolean made;
        private int left;
        private final int[] pool = new int[MOST_PERSONS];
        private final int[] driverIn = new int[MOST_PERSONS];
        private final int[] taken = new int[MOST_PERSONS];
        private final int[] pickedAt = new int[MOST_PERSONS];
        private final int[] broughtAt = new int[MOST_PERSONS];

        Plan() {
            made = false;
            left = 0;
        }

        boolean isMade() {
            return made;
        }

        void begin() {
            made = true;
            left = 0;
            Arrays.fill(pool, 0);
        }

        void put(int set, int driver, Way found) {
            for (int i = 0; i < found.size; i++) {
                int p = found.members[i];
                pool[p] = set;
                driverIn[p] = driver;
                taken[p] = found.taken;
                pickedAt[p] = found.begin + found.pickedAfter[i];
                broughtAt[p] = found.begin + found.broughtAfter[i];
            }
        }

        void leave(int p) {
            pool[p] = 0;
            left |= 1 << p;
        }

        void dissolve(int set) {
            for (int p = 0; p < MOST_PERSONS; p++) {
                if (contains(set, p)) {
                    pool[p] = 0;
                }
            }
        }

        /** Whether that is the least PERSON of a POOL. */
        boolean leads(int p) {
            return (pool[p] & -pool[p]) == 1 << p;
        }

        boolean drives(int p) {
            return pool[p] != 0 && driverIn[p] == p;
        }

        int poolAt(int p) {
            return pool[p];
        }

        int driverAt(int p) {
            return driverIn[p];
        }

        int pools() {
            int sum = 0;
            for (int p = 0; p < MOST_PERSONS; p++) {
                if (leads(p)) {
                    sum++;
                }
            }
            return sum;
        }

        int leftCount() {
            return Integer.bitCount(left);
        }

        int minutesTogether() {
            int sum = 0;
            for (int p = 0; p < MOST_PERSONS; p++) {
                if (leads(p)) {
                    sum += taken[p];
                }
            }
            return sum;
        }

        int personsInPools() {
            int sum = 0;
            for (int p = 0; p < MOST_PERSONS; p++) {
                if (pool[p] != 0) {
                    sum++;
                }
            }
            return sum;
        }

        /** One who rides alone gives and takes nothing. */
        int pointsEachMorning(int p) {
            int others = Integer.bitCount(pool[p]) - 1;
            if (others < 1) {
                return 0;
            }
            return driverIn[p] == p ? others : -1;
        }

        /** What poolOf() answers. */
        int tell(int p, int what) {
            if (what == 0) {
                return pool[p];
            }
            if (pool[p] == 0) {
                return NONE;
            }
            switch (what) {
                case 1: return driverIn[p];
                case 2: return pickedAt[p];
                case 3: return broughtAt[p];
                default: return NONE;
            }
        }
    }
}
