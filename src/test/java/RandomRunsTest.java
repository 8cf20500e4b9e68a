import java.util.Random;

/** Runs of calls by seeds, each call made on RidePools and on PlainRidePools, which must answer alike. */
public final class RandomRunsTest {
    private static final int RUNS = 400;
    private static final int CALLS = 120;

    private final Random dice;
    private final RidePools real = new RidePools();
    private final PlainRidePools plain = new PlainRidePools();
    private final int mostPersons;
    private final int stops;
    /** In such a run most sets FIT; in the others most do not. */
    private final boolean friendly;
    private final StringBuilder told = new StringBuilder();
    private int made = 0;

    private RandomRunsTest(long seed) {
        dice = new Random(seed);
        // Nine PERSONS are slow to look through plainly, so they come seldom.
        mostPersons = seed % 20 == 0 ? 9 : seed % 5 == 0 ? 7 : 1 + dice.nextInt(6);
        stops = 2 + dice.nextInt(5);
        friendly = dice.nextInt(3) > 0;
    }

    public static void main(String[] args) {
        int runs = args.length > 0 ? Integer.parseInt(args[0]) : RUNS;
        int first = args.length > 1 ? Integer.parseInt(args[1]) : 0;
        int wrong = 0;
        for (int seed = first; seed < first + runs; seed++) {
            String fault = new RandomRunsTest(seed).run();
            if (fault != null) {
                wrong++;
                System.out.println("seed " + seed + "\n" + fault);
            }
        }
        System.out.println("RandomRunsTest: " + (runs - wrong) + " runs as due, " + wrong + " not");
        if (wrong != 0) System.exit(1);
    }

    private String run() {
        int grain = 1 + dice.nextInt(20);
        for (int a = 0; a < stops; a++) {
            for (int b = 0; b < stops; b++) {
                if (a != b && dice.nextInt(5) > 0 && !road(a, b, grain * dice.nextInt(6))) return told.toString();
            }
        }
        for (int i = 0; i < CALLS; i++) {
            if (!call()) return told.toString();
        }
        for (int what = -1; what < 19; what++) {
            if (!same("count", real.count(what), plain.count(what), what)) return told.toString();
        }
        return null;
    }

    private boolean same(String name, int got, int want, int... args) {
        told.append("  ").append(name).append(java.util.Arrays.toString(args)).append(" = ").append(got);
        if (got != want) told.append(" but due is ").append(want);
        told.append('\n');
        return got == want;
    }

    private int odd(int low, int high) {
        int[] edges = {low - 1, high + 1, Integer.MIN_VALUE, Integer.MAX_VALUE, low - 2 - dice.nextInt(50), high + 2 + dice.nextInt(50)};
        return edges[dice.nextInt(edges.length)];
    }

    private int number(int low, int high) {
        return dice.nextInt(60) == 0 ? odd(low, high) : low + dice.nextInt(high - low + 1);
    }

    private int stop() {
        return dice.nextInt(80) == 0 ? odd(0, 9) : dice.nextInt(30) == 0 ? dice.nextInt(10) : dice.nextInt(stops);
    }

    private int who() {
        return dice.nextInt(40) == 0 ? odd(0, 8) : dice.nextInt(Math.max(1, made + (dice.nextInt(20) == 0 ? 1 : 0)));
    }

    private int early() {
        return dice.nextInt(40) == 0 ? number(0, 1440) : 400 + dice.nextInt(60) - (friendly ? 60 : 0);
    }

    private int late() {
        return dice.nextInt(40) == 0 ? number(0, 1440) : 480 + dice.nextInt(160);
    }

    private int set() {
        if (dice.nextInt(40) == 0) return new int[] {0, -1, Integer.MIN_VALUE, 1 << made, 1 << 9, 31, 511}[dice.nextInt(7)];
        int set = 0;
        int size = 1 + dice.nextInt(4);
        for (int i = 0; i < size; i++) set |= 1 << dice.nextInt(Math.max(1, made));
        return set;
    }

    private int driverOf(int set) {
        if (dice.nextInt(12) == 0 || set == 0) return who();
        for (int i = 0; i < 50; i++) {
            int p = dice.nextInt(9);
            if ((set >> p & 1) != 0) return p;
        }
        return 0;
    }

    private boolean road(int a, int b, int n) {
        return same("minutes", real.minutes(a, b, n), plain.minutes(a, b, n), a, b, n);
    }

    private boolean newcomer() {
        int kind = dice.nextInt(40) == 0 ? odd(0, 1) : dice.nextInt(5) == 0 ? 1 : 0;
        int house = stop();
        int work = stop();
        int early = early();
        int late = late();
        int detour = dice.nextInt(3) == 0 ? number(0, 300) : dice.nextInt(friendly ? 200 : 60);
        int seats = dice.nextInt(4) == 0 ? 0 : friendly ? 2 + dice.nextInt(4) : number(0, 5);
        if (made >= mostPersons && mostPersons < 9) return true;
        int got = real.person(kind, house, work, early, late, detour, seats);
        if (got >= 0) made++;
        return same("person", got, plain.person(kind, house, work, early, late, detour, seats), kind, house, work, early, late, detour, seats);
    }

    private boolean call() {
        int die = dice.nextInt(100);
        if (made < mostPersons && dice.nextInt(3) == 0 || die < 2) return newcomer();
        if (die < 30) return change(die % 7);
        if (die < 55) return ride(die % 6);
        return scheme(die % 11);
    }

    private boolean change(int die) {
        int p = who();
        int q = who();
        boolean on = dice.nextInt(friendly ? 5 : 3) == 0;
        switch (die) {
            case 0: return road(stop(), stop(), number(0, dice.nextInt(4) == 0 ? 300 : 40));
            case 1:
                int early = early();
                int late = late();
                return same("times", real.times(p, early, late), plain.times(p, early, late), p, early, late);
            case 2: return same("bar", real.bar(p, q, on), plain.bar(p, q, on), p, q, on ? 1 : 0);
            case 3: return same("away", real.away(p, on), plain.away(p, on), p, on ? 1 : 0);
            case 4: return same("broken", real.broken(p, on), plain.broken(p, on), p, on ? 1 : 0);
            case 5: return same("away", real.away(p, false), plain.away(p, false), p, 0);
            default: return repair(p);
        }
    }

    private boolean ride(int die) {
        int set = set();
        int d = driverOf(set);
        switch (die) {
            case 0: return same("fits", real.fits(set, d), plain.fits(set, d), set, d);
            case 1: return same("why", real.why(set, d), plain.why(set, d), set, d);
            case 2: return wholeWay(set, d);
            case 3: return same("cost", real.cost(set), plain.cost(set), set);
            case 4: return same("driver", real.driver(set), plain.driver(set), set);
            default: return same("turn", real.turn(set), plain.turn(set), set);
        }
    }

    private boolean wholeWay(int set, int d) {
        boolean good = true;
        int[] whats = {0, 1, 2, 3, 4, 5, 6, 11, 12, 13, 14, 15, 16, -1, Integer.MIN_VALUE, Integer.MAX_VALUE};
        for (int what : whats) good &= same("way", real.way(set, d, what), plain.way(set, d, what), set, d, what);
        return good;
    }

    private boolean scheme(int die) {
        int p = who();
        int from = stop();
        int to = stop();
        int n = dice.nextInt(10) == 0 ? odd(1, 1000) : number(1, 4);
        int what = dice.nextInt(14) - 1;
        switch (die) {
            case 0: return same("plan", real.plan(), plain.plan()) && wholePlan();
            case 1: return same("even", real.even(), plain.even()) && wholePlan();
            case 2: return same("fail", real.fail(p), plain.fail(p), p) && wholePlan() && (dice.nextBoolean() || repair(p));
            case 3: return same("mornings", real.mornings(n), plain.mornings(n), n);
            case 4: return same("same", real.same(), plain.same());
            case 5: return same("few", real.few(), plain.few());
            case 6: return same("planOf", real.planOf(what / 2), plain.planOf(what / 2), what / 2);
            case 7: return same("poolOf", real.poolOf(p, what / 3), plain.poolOf(p, what / 3), p, what / 3);
            case 8: return same("personOf", real.personOf(p, what), plain.personOf(p, what), p, what);
            case 9: return same("least", real.least(from, to), plain.least(from, to), from, to);
            default: return same("count", real.count(what), plain.count(what), what);
        }
    }

    private boolean repair(int p) {
        return same("broken", real.broken(p, false), plain.broken(p, false), p, 0);
    }

    private boolean wholePlan() {
        boolean good = true;
        for (int what = 0; what < 4; what++) {
            good &= same("planOf", real.planOf(what), plain.planOf(what), what);
            for (int p = 0; p < made; p++) good &= same("poolOf", real.poolOf(p, what), plain.poolOf(p, what), p, what);
        }
        return good;
    }
}
