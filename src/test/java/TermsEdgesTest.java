/** For each sentence of the document's 'What it is' and 'Terms' that names a boundary: calls on both sides of it. */
public final class TermsEdgesTest {
    private static final Answers answers = new Answers("TermsEdgesTest");

    private static void due(String sentence, String side, int got, int want) {
        answers.due(sentence, side, got, want);
    }

    public static void main(String[] args) {
        calls();
        stops();
        minutes();
        least();
        persons();
        seats();
        chairs();
        noCar();
        bars();
        poolOfFour();
        driverFirst();
        oneStop();
        early();
        late();
        wholeMinute();
        zeroTo1440();
        longestWay();
        detour();
        detourAboveLeast();
        fewestMinutes();
        firstPickedUp();
        firstAtWork();
        latestBegin();
        cost();
        leftAheadOfMinutes();
        minutesAheadOfPools();
        poolsAheadOfSets();
        lesserSet();
        leftIsNothing();
        awayIsNotParted();
        planAsThen();
        morning();
        turn();
        even();
        evenStays();
        failing();
        failingByNumbers();
        failingJoins();
        failingAlone();
        failingAway();
        answers.close();
    }

    private static void calls() {
        String says = "An object is used for at most 512 calls";
        RidePools x = new RidePools();
        for (int i = 0; i < 511; i++) x.least(-1, 0);
        due(says, "the 512th call tells 511 refusals", x.count(11), 511);
        RidePools y = new RidePools();
        for (int p = 0; p < 4; p++) y.person(0, 0, 1, 0, 1440, 0, 4);
        y.plan();
        for (int i = 6; i < 511; i++) y.mornings(1000);
        due(says, "505 times 1000 mornings", y.count(4), 505000);
        due(says, "the 512th call tells the points of who drove", y.personOf(0, 11), 1001515000);
        RidePools z = new RidePools();
        for (int p = 0; p < 4; p++) z.person(0, 0, 1, 0, 1440, 0, 4);
        z.plan();
        for (int i = 6; i < 512; i++) z.mornings(1000);
        due(says, "the 512th call tells the points of who rode", z.personOf(3, 11), 999494000);
        RidePools w = Towns.alike(4, 0, 0, 0, 4, 0, 0, 0, 1);
        for (int i = 18; i < 511; i++) w.plan();
        due(says, "the 512th call makes a plan", w.plan(), 3);
    }

    private static void stops() {
        String says = "STOPS 0 .. 9";
        RidePools x = new RidePools();
        for (int s = 0; s < 10; s++) due(says, "STOP " + s, x.least(s, s), 0);
        due(says, "no STOP -1", x.least(-1, -1), -1);
        due(says, "no STOP 10", x.least(10, 10), -1);
    }

    private static void minutes() {
        String says = "MINUTES from each to each other one (0 .. 300; 300 at first), which may differ by direction";
        RidePools x = new RidePools();
        for (int a = 0; a < 10; a++) {
            for (int b = 0; b < 10; b++) {
                if (a != b) due(says, a + " to " + b + " at first", x.minutes(a, b, 10 * a + b), 300);
            }
        }
        for (int a = 0; a < 10; a++) {
            for (int b = 0; b < 10; b++) {
                if (a != b) due(says, a + " to " + b + " apart from " + b + " to " + a, x.minutes(a, b, 0), 10 * a + b);
            }
        }
        due(says, "0 may be", x.minutes(3, 4, 300), 0);
        due(says, "300 may be", x.minutes(3, 4, -1), -4);
        due(says, "-1 and 301 may not", x.minutes(3, 4, 301), -6);
        due(says, "300 was taken, and nothing after it", x.minutes(3, 4, 5), 300);
    }

    private static void least() {
        String says = "LEAST from one to another: the fewest MINUTES by any STOPS between (0 to itself)";
        int[] through = {5, 0, 9, 3, 7, 1, 8, 2, 6, 4};
        RidePools x = new RidePools();
        for (int i = 0; i < 9; i++) x.minutes(through[i], through[i + 1], 10);
        due(says, "by all eight between", x.least(5, 4), 90);
        x.minutes(5, 4, 91);
        due(says, "straight is a minute longer", x.least(5, 4), 90);
        x.minutes(5, 4, 89);
        due(says, "straight is a minute shorter", x.least(5, 4), 89);
        due(says, "straight is longer than 300, which is less than twice 300", x.least(4, 5), 300);
        x.minutes(4, 7, 150);
        x.minutes(7, 5, 150);
        due(says, "300 by one between as well", x.least(4, 5), 300);
        x.minutes(7, 5, 149);
        due(says, "299 by one between", x.least(4, 5), 299);
        for (int s = 0; s < 10; s++) due(says, "to itself", x.least(s, s), 0);
        for (int a = 0; a < 10; a++) {
            for (int b = 0; b < 10; b++) {
                for (int c = 0; c < 10; c++) {
                    if (a != b && b != c && a != c) due(says, a + " by " + b + " to " + c, by(a, b, c), 299);
                }
            }
        }
        RidePools y = new RidePools();
        for (int s = 0; s < 10; s++) y.minutes(s, (s + 1) % 10, 0);
        due(says, "a ring of no MINUTES", y.least(3, 2), 0);
        due(says, "to itself on a ring", y.least(3, 3), 0);
        y.minutes(9, 0, 1);
        due(says, "a ring with one MINUTE", y.least(3, 2), 1);
        due(says, "not over that MINUTE", y.least(2, 9), 0);
    }

    private static int by(int a, int b, int c) {
        RidePools x = new RidePools();
        x.minutes(a, b, 100);
        x.minutes(b, c, 199);
        return x.least(a, c);
    }

    private static void persons() {
        String says = "PERSONS have numbers from 0 on (9 at most)";
        RidePools x = new RidePools();
        due(says, "none yet", x.personOf(0, 0), -1);
        for (int p = 0; p < 9; p++) {
            due(says, "number " + p, x.person(0, 0, 1, 0, 1440, 0, 5), p);
            due(says, "is there", x.personOf(p, 0), 0);
            due(says, "the next is not", x.personOf(p + 1, 0), -1);
        }
        due(says, "no tenth", x.person(0, 0, 1, 0, 1440, 0, 5), -6);
        due(says, "nine", x.count(0), 9);
        due(says, "the ninth's bit", x.cost(256), 300);
        due(says, "no tenth bit", x.cost(512), -1);
    }

    private static void seats() {
        String says = "SEATS of their car (0: none; 1 .. 5, the driver's own too)";
        for (int riders = 1; riders <= 4; riders++) {
            int set = (1 << riders) - 1;
            for (int seats = 0; seats <= 5; seats++) {
                RidePools x = Towns.alike(seats, 0, 0, 0);
                int want = seats == 0 ? 1 : seats < riders ? 2 : 0;
                due(says, riders + " in a car of " + seats, x.why(set, 0), want);
            }
        }
    }

    private static void chairs() {
        String says = "1 CHAIR (takes two SEATS, its own car's too)";
        for (int seats = 1; seats <= 5; seats++) {
            for (int kinds = 0; kinds < 16; kinds++) {
                RidePools x = Towns.line();
                for (int p = 0; p < 4; p++) x.person(kinds >> p & 1, 0, 1, 0, 1440, 0, seats);
                for (int size = 1; size <= 4; size++) {
                    int set = (1 << size) - 1;
                    int taken = size + Integer.bitCount(kinds & set);
                    due(says, taken + " SEATS of " + seats, x.why(set, size - 1), taken <= seats ? 0 : 2);
                }
            }
        }
    }

    private static void noCar() {
        String says = "its car may be BROKEN (it has none then)";
        RidePools x = Towns.alike(5, 0);
        due(says, "a car", x.why(1, 0), 0);
        due(says, "no car", x.why(2, 1), 1);
        due(says, "one car", x.count(2), 1);
        x.broken(0, true);
        x.broken(1, true);
        due(says, "BROKEN", x.why(1, 0), 1);
        due(says, "no car to be BROKEN", x.why(2, 1), 1);
        due(says, "none", x.count(2), 0);
        x.broken(0, false);
        x.broken(1, false);
        due(says, "whole again", x.why(1, 0), 0);
        due(says, "still no car", x.why(2, 1), 1);
        due(says, "one car again", x.count(2), 1);
        RidePools y = Towns.alike(5, 5);
        y.broken(1, true);
        due(says, "another's car may be BROKEN", y.why(3, 0), 0);
    }

    private static void bars() {
        String says = "BARS: two PERSONS that are never in one POOL";
        for (int p = 0; p < 5; p++) {
            for (int q = 0; q < 5; q++) {
                if (p == q) continue;
                RidePools x = Towns.alike(5, 5, 5, 5, 5);
                x.bar(p, q, true);
                for (int set = 1; set < 31; set++) {
                    boolean both = (set >> p & 1) + (set >> q & 1) == 2;
                    if (Integer.bitCount(set) <= 4) due(says, p + " and " + q + " in " + set, x.cost(set), both ? -9 : 10);
                }
                x.plan();
                due(says, "in the plan", x.poolOf(p, 0) == x.poolOf(q, 0) ? 1 : 0, 0);
            }
        }
    }

    private static void poolOfFour() {
        String says = "A POOL is a set of PERSONS that are not AWAY, 4 at most";
        RidePools x = Towns.alike(5, 5, 5, 5, 5);
        due(says, "four", x.cost(30), 10);
        due(says, "five", x.cost(31), -1);
        due(says, "five in two POOLS", x.few(), 2);
        due(says, "five in two POOLS", x.plan(), 2);
        x.away(4, true);
        due(says, "four in one POOL", x.few(), 1);
        due(says, "four in one POOL", x.plan(), 1);
        due(says, "all four", x.poolOf(0, 0), 15);
        due(says, "one is AWAY", x.cost(30), -3);
        due(says, "none is AWAY", x.cost(15), 10);
    }

    private static void driverFirst() {
        String says = "an order in which all are picked up, the driver first, then an order in which all come to WORK";
        RidePools x = Towns.alike(4, 4, 4, 4);
        for (int driver = 0; driver < 4; driver++) due(says, "the driver", x.way(15, driver, 2), driver);
        RidePools y = Towns.line();
        y.person(0, 0, 1, 0, 1440, 10, 2);
        y.person(0, 2, 3, 0, 1440, 300, 2);
        due(says, "the other is picked up ahead of the driver's WORK, which is 10 past and 300 back", y.fits(3, 0), -9);
        y.minutes(2, 1, 0);
        due(says, "0 back: there and back in 20, then on", y.fits(3, 0), 40);
        due(says, "the driver at WORK first", y.way(3, 0, 12), 0);
        due(says, "the driver lives behind: not picked up on the way", y.fits(3, 1), -9);
    }

    private static void oneStop() {
        String says = "PERSONS at one STOP one behind the other, 0 MINUTES";
        RidePools x = Towns.alike(4, 4, 4, 4);
        due(says, "all at one STOP", x.fits(15, 0), 10);
        x.plan();
        for (int p = 0; p < 4; p++) {
            due(says, "picked up at one minute", x.poolOf(p, 2), 1430);
            due(says, "at WORK at one minute", x.poolOf(p, 3), 1440);
        }
        RidePools y = Towns.line();
        y.person(0, 0, 1, 0, 1440, 0, 4);
        y.person(0, 1, 2, 0, 1440, 0, 4);
        due(says, "picked up where another one works", y.fits(3, 0), 20);
        due(says, "which comes to WORK first", y.way(3, 0, 12), 0);
    }

    private static void early() {
        String says = "none is picked up ahead of EARLY";
        for (int p = 0; p < 4; p++) {
            RidePools x = Towns.string();
            x.times(3, 0, 570);
            x.times(p, 500 + 10 * p, p == 3 ? 570 : 1440);
            due(says, p + " at EARLY", x.fits(15, 0), 70);
            x.times(p, 501 + 10 * p, p == 3 ? 570 : 1440);
            due(says, p + " a minute ahead", x.fits(15, 0), -9);
            due(says, "why", x.why(15, 0), 4);
        }
    }

    private static void late() {
        String says = "or comes to WORK behind LATE";
        for (int p = 0; p < 4; p++) {
            RidePools x = Towns.string();
            x.times(0, 500, 1440);
            x.times(p, p == 0 ? 500 : 0, 540 + 10 * p);
            due(says, p + " at LATE", x.fits(15, 0), 70);
            x.times(p, p == 0 ? 500 : 0, 539 + 10 * p);
            due(says, p + " a minute behind", x.fits(15, 0), -9);
            due(says, "why", x.why(15, 0), 4);
        }
    }

    private static void wholeMinute() {
        String says = "there is a whole minute at which the driver can begin";
        RidePools x = Towns.alike(1);
        x.times(0, 600, 611);
        due(says, "two such", x.way(1, 0, 0), 601);
        x.times(0, 600, 610);
        due(says, "one such", x.way(1, 0, 0), 600);
        x.times(0, 600, 609);
        due(says, "none", x.way(1, 0, 0), -9);
        x.minutes(0, 1, 0);
        x.times(0, 600, 600);
        due(says, "no MINUTES, one such", x.way(1, 0, 0), 600);
        x.times(0, 601, 600);
        due(says, "EARLY behind LATE", x.way(1, 0, 0), -9);
    }

    private static void zeroTo1440() {
        String says = "(0 to 1440 all)";
        RidePools x = Towns.string();
        x.times(3, 0, 70);
        due(says, "begins at 0", x.way(15, 0, 0), 0);
        x.times(3, 0, 69);
        due(says, "would begin at -1", x.way(15, 0, 0), -9);
        x.times(3, 0, 1440);
        x.times(0, 1370, 1440);
        due(says, "ends at 1440", x.way(15, 0, 1), 1440);
        x.times(0, 1371, 1440);
        due(says, "would end at 1441", x.way(15, 0, 1), -9);
        RidePools y = new RidePools();
        y.minutes(0, 1, 0);
        y.person(0, 0, 1, 0, 0, 0, 1);
        y.person(0, 0, 1, 1440, 1440, 0, 1);
        due(says, "all at 0", y.way(1, 0, 1), 0);
        due(says, "all at 1440", y.way(2, 1, 0), 1440);
    }

    /** Nobody is in the car for more than 600 MINUTES, and the driver is there when the last one is picked up. */
    private static void longestWay() {
        String says = "It takes the MINUTES from its begin to the last WORK";
        RidePools x = new RidePools();
        for (int p = 0; p < 4; p++) x.person(0, p, p + 2, 0, 1440, 300, 4);
        due(says, "two", x.fits(3, 0), 900);
        due(says, "three, 600 to the driver's WORK and 600 from there", x.fits(7, 0), 1200);
        due(says, "four are too far", x.fits(15, 0), -9);
        x.times(0, 240, 1440);
        due(says, "begins at 240", x.way(7, 0, 0), 240);
        due(says, "ends at 1440", x.way(7, 0, 1), 1440);
        x.times(0, 241, 1440);
        due(says, "would end at 1441", x.way(7, 0, 1), -9);
    }

    private static void detour() {
        String says = "none is in the car for more than LEAST from HOUSE to WORK and DETOUR";
        for (int d = 9; d <= 10; d++) {
            RidePools x = new RidePools();
            x.minutes(0, 1, 20);
            x.minutes(1, 2, 20);
            x.minutes(0, 2, 30);
            x.person(0, 0, 2, 0, 1440, d, 3);
            x.person(0, 1, 2, 0, 1440, 300, 3);
            x.person(0, 0, 2, 0, 1440, 300, 3);
            x.person(0, 0, 2, 0, 1440, d, 3);
            due(says, "who drives, 30 and " + d, x.fits(3, 0), d == 10 ? 40 : -9);
            due(says, "who rides, 30 and " + d, x.fits(14, 2), d == 10 ? 40 : -9);
        }
        RidePools y = new RidePools();
        y.minutes(0, 1, 155);
        y.minutes(1, 2, 155);
        y.minutes(0, 2, 10);
        y.person(0, 0, 2, 0, 1440, 300, 2);
        y.person(0, 1, 2, 0, 1440, 0, 0);
        due(says, "10 and 300 in the car", y.fits(3, 0), 310);
        y.minutes(1, 2, 156);
        due(says, "a minute more", y.fits(3, 0), -9);
    }

    private static void detourAboveLeast() {
        String says = "LEAST from HOUSE to WORK, not its MINUTES";
        RidePools x = Towns.line();
        x.minutes(0, 3, 31);
        x.minutes(5, 1, 10);
        x.minutes(0, 5, 1);
        x.person(0, 0, 3, 0, 1440, 0, 2);
        x.person(0, 5, 3, 0, 1440, 0, 0);
        due(says, "31 is more than LEAST", x.fits(3, 0), -9);
        x.minutes(5, 1, 9);
        due(says, "30 is not", x.fits(3, 0), 30);
    }

    private static RidePools two(int riderOneFirst, int riderTwoFirst) {
        RidePools x = new RidePools();
        x.minutes(0, 1, 10);
        x.minutes(0, 2, 10);
        x.minutes(1, 2, riderOneFirst);
        x.minutes(2, 1, riderTwoFirst);
        x.minutes(1, 3, 10);
        x.minutes(2, 3, 10);
        for (int p = 0; p < 3; p++) x.person(0, p, 3, 0, 1440, 300, 3);
        return x;
    }

    private static void fewestMinutes() {
        String says = "Its WAY is the one that takes the fewest MINUTES, of several the first one";
        RidePools x = two(5, 4);
        due(says, "2 ahead of 1 is a minute shorter", x.fits(7, 0), 24);
        due(says, "2 ahead of 1", x.way(7, 0, 3), 2);
        RidePools y = two(5, 5);
        due(says, "as long", y.fits(7, 0), 25);
        due(says, "then 1 ahead of 2", y.way(7, 0, 3), 1);
        RidePools z = two(4, 5);
        due(says, "1 ahead of 2 is a minute shorter", z.fits(7, 0), 24);
        due(says, "1 ahead of 2", z.way(7, 0, 3), 1);
    }

    private static void firstPickedUp() {
        String says = "(picked up: the lesser number at the first place that differs";
        RidePools x = Towns.alike(4, 4, 4, 4);
        int[][] want = {{0, 1, 2, 3}, {1, 0, 2, 3}, {2, 0, 1, 3}, {3, 0, 1, 2}};
        for (int driver = 0; driver < 4; driver++) {
            for (int i = 0; i < 4; i++) due(says, driver + " drives, " + i, x.way(15, driver, 2 + i), want[driver][i]);
        }
        RidePools y = two(5, 5);
        y.times(1, 1425, 1440);
        due(says, "1 at 1425, then 2 at 1430", y.way(7, 0, 3), 1);
        y.times(1, 1426, 1440);
        due(says, "2 at 1425, then 1 at 1430: the first order does not FIT", y.way(7, 0, 3), 2);
        y.times(2, 1426, 1440);
        due(says, "neither may be the first", y.way(7, 0, 3), -9);
    }

    private static void firstAtWork() {
        String says = "then likewise who comes to WORK)";
        RidePools x = Towns.alike(4, 4, 4, 4);
        for (int driver = 0; driver < 4; driver++) {
            for (int i = 0; i < 4; i++) due(says, driver + " drives, " + i, x.way(15, driver, 12 + i), i);
        }
        for (int n = 4; n <= 6; n++) {
            RidePools y = new RidePools();
            y.minutes(0, 1, 10);
            y.minutes(0, 2, 10);
            y.minutes(1, 2, 5);
            y.minutes(2, 1, n);
            y.person(0, 0, 1, 0, 1440, 300, 2);
            y.person(0, 0, 2, 0, 1440, 300, 2);
            due(says, "MINUTES", y.fits(3, 1), Math.min(15, 10 + n));
            due(says, "5 by 1, " + n + " by 2", y.way(3, 1, 12), n < 5 ? 1 : 0);
            due(says, "5 by 1, " + n + " by 2", y.way(3, 1, 13), n < 5 ? 0 : 1);
        }
    }

    private static void latestBegin() {
        String says = "It begins at the latest minute that may be";
        RidePools x = Towns.string();
        due(says, "to be there at 1440", x.way(15, 0, 0), 1370);
        for (int p = 0; p < 4; p++) {
            x.times(p, 0, 1000 - 100 * p);
            due(says, p + " is the first whom it presses", x.way(15, 0, 0), 1000 - 100 * p - 40 - 10 * p);
        }
        x.times(0, 630, 1000);
        due(says, "the only one", x.way(15, 0, 0), 630);
        x.times(0, 631, 1000);
        due(says, "none", x.way(15, 0, 0), -9);
    }

    private static void cost() {
        String says = "COST of a set: the fewest MINUTES with any driver that it FITS, of several the driver of the least number";
        for (int n = 4; n <= 6; n++) {
            RidePools x = Towns.twoDrivers();
            x.minutes(0, 1, n);
            due(says, "0 drives " + n + " more, 1 drives 5 more", x.cost(3), Math.min(15, 10 + n));
            due(says, "0 drives " + n + " more, 1 drives 5 more", x.driver(3), n <= 5 ? 0 : 1);
        }
        RidePools y = Towns.twoDrivers();
        y.minutes(0, 1, 4);
        y.broken(0, true);
        due(says, "it FITS only the dearer", y.cost(3), 15);
        due(says, "it FITS only the dearer", y.driver(3), 1);
        y.broken(1, true);
        due("none if it FITS none", "no car", y.cost(3), -9);
        due("none if it FITS none", "no car", y.driver(3), -9);
    }

    private static void leftAheadOfMinutes() {
        String says = "THE BEST has the fewest LEFT, of these the fewest MINUTES together";
        RidePools x = Towns.roundabout(300);
        x.broken(1, true);
        due(says, "310 with none LEFT", x.plan(), 1);
        due(says, "310 with none LEFT", x.planOf(2), 310);
        due(says, "none LEFT", x.planOf(1), 0);
        x.bar(0, 1, true);
        due(says, "not together: one LEFT", x.plan(), 1);
        due(says, "10 with one LEFT", x.planOf(2), 10);
        due(says, "one LEFT", x.planOf(1), 1);
        RidePools y = Towns.alike(2, 2, 0, 0);
        due(says, "two POOLS", y.plan(), 2);
        due(says, "none LEFT", y.planOf(1), 0);
        y.bar(1, 2, true);
        y.bar(1, 3, true);
        y.plan();
        due(says, "one LEFT", y.planOf(1), 1);
    }

    private static void minutesAheadOfPools() {
        String says = "of these the fewest MINUTES together, of these the fewest POOLS";
        due(says, "one POOL takes a minute less", Towns.roundabout(9).plan(), 1);
        due(says, "one POOL takes as many", Towns.roundabout(10).plan(), 1);
        due(says, "one POOL takes a minute more", Towns.roundabout(11).plan(), 2);
    }

    private static void poolsAheadOfSets() {
        String says = "of these the fewest POOLS, of these the one in which the POOL of the first PERSON .. has the lesser set";
        RidePools x = Towns.alike(3, 3, 3, 3);
        x.minutes(0, 1, 0);
        due(says, "two POOLS, not three or four", x.plan(), 2);
        int[] want = {1, 14, 14, 14};
        for (int p = 0; p < 4; p++) due(says, "of two POOLS the lesser set", x.poolOf(p, 0), want[p]);
        x.person(0, 0, 1, 0, 1440, 0, 4);
        due(says, "with a fifth", x.plan(), 2);
        due(says, "1 alone, the others with it", x.poolOf(4, 0), 30);
    }

    private static void lesserSet() {
        String says = "the POOL of the first PERSON, by numbers, that differs has the lesser set (as bits";
        RidePools x = Towns.alike(2, 2, 2);
        x.plan();
        due(says, "0 alone", x.poolOf(0, 0), 1);
        x.bar(1, 2, true);
        x.plan();
        due(says, "0 with 1", x.poolOf(0, 0), 3);
        x.bar(0, 1, true);
        x.plan();
        due(says, "0 with 2", x.poolOf(0, 0), 5);
        RidePools y = Towns.alike(2, 2, 2, 2, 2);
        y.plan();
        int[] want = {1, 6, 6, 24, 24};
        for (int p = 0; p < 5; p++) due(says, "the first that differs, " + p, y.poolOf(p, 0), want[p]);
        y.bar(3, 4, true);
        y.plan();
        int[] then = {1, 10, 20, 10, 20};
        for (int p = 0; p < 5; p++) due(says, "then the next, " + p, y.poolOf(p, 0), then[p]);
    }

    private static void leftIsNothing() {
        String says = "LEFT is 0)";
        RidePools x = Towns.alike(0, 0, 2);
        x.plan();
        due(says, "0 is LEFT", x.poolOf(0, 0), 0);
        due(says, "1 is not", x.poolOf(1, 0), 6);
        x.bar(1, 2, true);
        x.plan();
        due(says, "0 is not", x.poolOf(0, 0), 5);
        due(says, "1 is LEFT", x.poolOf(1, 0), 0);
    }

    private static void awayIsNotParted() {
        String says = "A PARTING puts each PERSON that is not AWAY into one POOL, or leaves it LEFT";
        RidePools x = Towns.alike(1, 1, 0);
        x.plan();
        due(says, "in POOLS", x.planOf(3), 2);
        due(says, "LEFT", x.planOf(1), 1);
        x.away(2, true);
        x.plan();
        due(says, "AWAY is not LEFT", x.planOf(1), 0);
        x.away(1, true);
        x.plan();
        due(says, "AWAY is in no POOL", x.planOf(3), 1);
        x.away(0, true);
        due(says, "all are AWAY", x.plan(), 0);
        due(says, "none LEFT", x.planOf(1), 0);
    }

    private static void planAsThen() {
        String says = "THE PLAN is what plan() made it (none at first): POOLS with their drivers and WAYS, as they were then";
        RidePools x = Towns.neighbours();
        due(says, "none at first", x.count(3), 0);
        due(says, "none at first", x.planOf(0), -3);
        x.plan();
        x.minutes(0, 1, 300);
        x.times(0, 0, 0);
        x.bar(0, 1, true);
        x.away(1, true);
        x.broken(0, true);
        x.person(0, 0, 1, 0, 1440, 0, 5);
        int[] numbers = {1, 0, 30, 4};
        for (int what = 0; what < 4; what++) due(says, "of the plan " + what, x.planOf(what), numbers[what]);
        int[] of1 = {15, 0, 490, 500};
        for (int what = 0; what < 4; what++) due(says, "of 1 " + what, x.poolOf(1, what), of1[what]);
    }

    private static void morning() {
        String says = "for each POOL of THE PLAN of 2 or more: who drives has as many POINTS more as there are others, each other one has 1 less";
        for (int size = 1; size <= 4; size++) {
            RidePools x = Towns.line();
            for (int p = 0; p < size; p++) x.person(0, 0, 1, 0, 1440, 0, p == size - 1 ? 4 : 0);
            x.plan();
            for (int p = 0; p < size; p++) due("POINTS of a PERSON (0 at first)", "of " + p, x.personOf(p, 11), 1000000000);
            x.mornings(1);
            for (int p = 0; p < size - 1; p++) due(says, p + " rides with " + size, x.personOf(p, 11), 999999999);
            due(says, "who drives " + size, x.personOf(size - 1, 11), 1000000000 + size - 1);
        }
        RidePools y = Towns.alike(4, 0, 0, 0, 2, 0, 1, 0);
        y.plan();
        y.mornings(2);
        int[] want = {6, -2, -2, -2, 2, -2, 0, 0};
        for (int p = 0; p < 8; p++) due(says, "POOLS of 4, 2 and 1, and one LEFT: " + p, y.personOf(p, 11), 1000000000 + want[p]);
    }

    private static void turn() {
        String says = "TURN of a set: of those whom it FITS as drivers the one with the fewest POINTS, of several the least number";
        RidePools x = Towns.twoDrivers();
        due(says, "0 and 0 POINTS", x.turn(3), 0);
        x.plan();
        x.mornings(1);
        due(says, "-1 and 1 POINTS", x.turn(3), 0);
        x.even();
        x.mornings(1);
        due(says, "0 and 0 POINTS", x.turn(3), 0);
        x.mornings(1);
        due(says, "1 and -1 POINTS", x.turn(3), 1);
        x.broken(1, true);
        due(says, "it does not FIT the one with fewer", x.turn(3), 0);
        x.broken(0, true);
        due(says, "it FITS none", x.turn(3), -9);
        RidePools y = Towns.alike(3, 3, 3);
        y.plan();
        y.mornings(1);
        due(says, "2, -1 and -1 POINTS", y.turn(7), 1);
        y.even();
        y.mornings(1);
        due(says, "1, 1 and -2 POINTS", y.turn(7), 2);
        due(says, "1 and 1 POINTS", y.turn(3), 0);
    }

    private static void even() {
        String says = "THE PLAN's drivers become, POOL by POOL, those whose TURN it is (as POINTS are), with the WAY for them as it is now";
        RidePools x = Towns.twoDrivers();
        x.plan();
        due(says, "1 drives", x.poolOf(0, 1), 1);
        due(says, "it is the TURN of 0", x.even(), 1);
        due(says, "0 drives", x.poolOf(0, 1), 0);
        due(says, "its WAY", x.planOf(2), 30);
        due(says, "nothing to change", x.even(), 0);
        x.minutes(0, 1, 19);
        due(says, "no driver changed", x.even(), 0);
        due(says, "the WAY as it is now", x.planOf(2), 29);
        RidePools y = Towns.alike(4, 4, 4, 4, 4, 4, 4, 4);
        y.plan();
        y.mornings(1);
        due(says, "two POOLS", y.even(), 2);
        y.mornings(1);
        y.broken(6, true);
        due(says, "of two POOLS both again", y.even(), 2);
        due(says, "the third of the first POOL", y.poolOf(0, 1), 2);
        due(says, "not the third of the second, whose car is BROKEN", y.poolOf(4, 1), 7);
    }

    private static void evenStays() {
        String says = "(a POOL that FITS none, or has one who is AWAY, stays as it is)";
        for (int who = 0; who < 2; who++) {
            RidePools x = Towns.twoDrivers();
            x.plan();
            x.away(who, true);
            due(says, who + " is AWAY", x.even(), 0);
            due(says, "1 drives", x.poolOf(0, 1), 1);
            x.away(who, false);
            due(says, who + " is back", x.even(), 1);
            due(says, "0 drives", x.poolOf(0, 1), 0);
        }
        RidePools y = Towns.twoDrivers();
        y.plan();
        y.minutes(1, 0, 4);
        y.bar(0, 1, true);
        due(says, "it FITS none", y.even(), 0);
        due(says, "its WAY stays", y.planOf(2), 15);
        due(says, "1 drives", y.poolOf(0, 1), 1);
        y.bar(0, 1, false);
        due(says, "it FITS both", y.even(), 1);
        RidePools z = Towns.alike(4, 4, 4, 4, 4, 4, 4, 4);
        z.plan();
        z.mornings(1);
        z.away(0, true);
        due(says, "only the other POOL", z.even(), 1);
        due(says, "stays", z.poolOf(1, 1), 0);
        due(says, "changes", z.poolOf(4, 1), 5);
    }

    private static void failing() {
        String says = "it is BROKEN; if it drives a POOL of THE PLAN, that POOL is no more";
        RidePools x = Towns.alike(3, 3, 3);
        x.plan();
        due(says, "one who rides", x.fail(1), 0);
        due(says, "BROKEN", x.personOf(1, 8), 1);
        due(says, "the POOL stays", x.poolOf(1, 0), 7);
        due(says, "one who drives", x.fail(0), 2);
        due(says, "BROKEN", x.personOf(0, 8), 1);
        due(says, "no more", x.poolOf(0, 0), 0);
        due(says, "one who drives alone", x.fail(2), 1);
        due(says, "no POOL", x.planOf(0), 0);
        due(says, "one who is LEFT", x.fail(0), 0);
        RidePools z = Towns.twoDrivers();
        z.plan();
        due(says, "one who rides, and could not drive now", z.fail(0), 0);
        due(says, "the POOL stays", z.poolOf(0, 0), 3);
        due(says, "1 drives", z.poolOf(0, 1), 1);
        RidePools y = Towns.alike(1);
        y.plan();
        y.person(0, 0, 1, 0, 1440, 0, 1);
        due(says, "one who came later", y.fail(1), 0);
        due(says, "BROKEN", y.personOf(1, 8), 1);
        due(says, "the PLAN stays", y.planOf(0), 1);
    }

    private static void failingByNumbers() {
        String says = "those in it, by numbers";
        RidePools x = Towns.alike(0, 0, 3, 1);
        x.bar(0, 3, true);
        x.plan();
        due(says, "0, 1 and 2", x.poolOf(0, 0), 7);
        x.bar(0, 3, false);
        x.broken(3, true);
        due(says, "no other car", x.fail(2), 3);
        RidePools y = Towns.apart(3, 2);
        y.person(0, 0, 1, 0, 50, 0, 0);
        y.person(0, 0, 1, 0, 50, 0, 0);
        y.plan();
        due(says, "0, 2 and 3", y.poolOf(0, 0), 13);
        y.times(1, 0, 150);
        due(says, "one seat with 1: two are LEFT", y.fail(0), 2);
        due(says, "0 is the first", y.poolOf(0, 0), 3);
        RidePools z = Towns.apart(3, 2);
        z.person(0, 0, 1, 0, 50, 0, 0);
        z.person(0, 0, 1, 0, 50, 0, 0);
        z.plan();
        z.times(1, 0, 150);
        z.bar(0, 1, true);
        due(says, "0 may not: two are LEFT", z.fail(0), 2);
        due(says, "2 is the first that may", z.poolOf(2, 0), 6);
        due(says, "3 is LEFT", z.poolOf(3, 0), 0);
    }

    private static void failingJoins() {
        String says = "each join the first POOL (by its least PERSON) that then FITS with them with its driver (its WAY anew)";
        RidePools x = Towns.apart(2, 2, 2);
        x.plan();
        x.times(2, 0, 1440);
        due(says, "2 finds a place", x.fail(2), 0);
        due(says, "with 0", x.poolOf(2, 0), 5);
        due(says, "0 drives", x.poolOf(2, 1), 0);
        due(says, "the WAY of 0 anew", x.poolOf(2, 3), 50);
        RidePools y = Towns.apart(1, 2, 2);
        y.plan();
        y.times(2, 0, 1440);
        due(says, "2 finds a place", y.fail(2), 0);
        due(says, "no seat with 0, one with 1", y.poolOf(2, 0), 6);
        due(says, "its WAY", y.poolOf(2, 3), 150);
        RidePools z = Towns.apart(2, 2, 2);
        z.plan();
        z.times(2, 0, 49);
        z.minutes(0, 1, 20);
        due(says, "with 0", z.fail(2), 0);
        due(says, "its WAY anew: earlier and longer", z.poolOf(0, 2), 29);
        due(says, "the POOL of 1 as it was", z.poolOf(1, 2), 140);
        due(says, "MINUTES", z.planOf(2), 30);
        RidePools w = Towns.apart(2, 2, 2);
        w.plan();
        w.times(2, 0, 1440);
        w.broken(0, true);
        due(says, "0 has no car now", w.fail(2), 0);
        due(says, "with 1", w.poolOf(2, 0), 6);
        w.broken(2, false);
        due(says, "0 fails at last", w.fail(0), 1);
        due(says, "another driver does not help", w.poolOf(0, 0), 0);
        full(says);
    }

    private static void full(String says) {
        RidePools x = Towns.alike(5, 0, 0, 0);
        x.person(0, 0, 1, 0, 1440, 0, 1);
        x.bar(0, 4, true);
        x.plan();
        due(says, "a POOL of four", x.poolOf(0, 0), 15);
        x.bar(0, 4, false);
        due(says, "takes no fifth", x.fail(4), 1);
        RidePools y = Towns.alike(5, 0, 0, 0);
        y.away(3, true);
        y.person(0, 0, 1, 0, 1440, 0, 1);
        y.bar(0, 4, true);
        y.plan();
        due(says, "a POOL of three", y.poolOf(0, 0), 7);
        y.bar(0, 4, false);
        due(says, "takes a fourth", y.fail(4), 0);
        due(says, "of four", y.poolOf(4, 0), 23);
    }

    private static void failingAlone() {
        String says = "else one of their own that FITS, or are LEFT";
        RidePools x = Towns.alike(3, 1, 0);
        x.plan();
        due(says, "0 has no car, 2 none either", x.fail(0), 2);
        due(says, "0 is LEFT", x.poolOf(0, 0), 0);
        due(says, "1 has its own", x.poolOf(1, 0), 2);
        due(says, "which it drives", x.poolOf(1, 1), 1);
        due(says, "2 is LEFT", x.poolOf(2, 0), 0);
        RidePools y = Towns.alike(3, 1, 0);
        y.plan();
        y.times(1, 5, 5);
        due(says, "its own does not FIT", y.fail(0), 3);
        RidePools z = Towns.alike(3, 2, 0);
        z.plan();
        due(says, "2 joins the one that 1 has just made", z.fail(0), 1);
        due(says, "1 and 2", z.poolOf(2, 0), 6);
        due(says, "LEFT", z.planOf(1), 1);
    }

    private static void failingAway() {
        String says = "(who is AWAY is LEFT; nobody joins a POOL with one who is AWAY)";
        RidePools x = Towns.alike(3, 1, 1);
        x.plan();
        x.away(1, true);
        due(says, "0 has no car, 1 is AWAY", x.fail(0), 2);
        due(says, "1 is LEFT", x.poolOf(1, 0), 0);
        due(says, "2 has its own", x.poolOf(2, 0), 4);
        due(says, "two LEFT", x.planOf(1), 2);
        for (int who = 0; who < 2; who++) {
            RidePools y = Towns.apart(4, 4);
            y.person(0, 0, 1, 0, 50, 0, 0);
            y.plan();
            due(says, "0 and 2", y.poolOf(0, 0), 5);
            y.times(1, 0, 50);
            y.away(2 * who, true);
            due(says, "1 finds no place", y.fail(1), 1);
            due(says, "0 and 2", y.poolOf(0, 0), 5);
            RidePools z = Towns.apart(4, 4);
            z.person(0, 0, 1, 0, 50, 0, 0);
            z.plan();
            z.times(1, 0, 50);
            due(says, "1 finds a place", z.fail(1), 0);
            due(says, "all", z.poolOf(0, 0), 7);
        }
    }
}
