import java.util.function.IntSupplier;

/** For each promise of the document the answers that are due, worked out by hand. */
public final class PromisesTest {
    private static final int LOW = Integer.MIN_VALUE;
    private static final int HIGH = Integer.MAX_VALUE;
    private static int checked = 0;
    private static int wrong = 0;

    private static void due(int promise, String what, int got, int want) {
        checked++;
        if (got != want) {
            wrong++;
            System.out.println("promise " + promise + ": " + what + ": answered " + got + ", due is " + want);
        }
    }

    public static void main(String[] args) {
        promise1();
        promise2();
        promise3();
        promise4();
        promise4Order();
        promise5();
        promise6();
        promise7();
        promise8();
        promise9();
        promise9Windows();
        promise9Detour();
        promise9Refused();
        promise10();
        promise11();
        promise12();
        promise13();
        promise14();
        promise15();
        promise15Ties();
        promise15Left();
        promise16();
        promise17();
        promise18();
        promise19();
        promise19Stays();
        promise20();
        promise21();
        promise21Join();
        promise21Away();
        promise22();
        promise23();
        promise24();
        promise24Refusals();
        promise24RefusalsOfThePlan();
        System.out.println("PromisesTest: " + (checked - wrong) + " answers as due, " + wrong + " not");
        if (wrong != 0) System.exit(1);
    }

    private static void promise1() {
        RidePools x = new RidePools();
        for (int what = 0; what < 5; what++) due(1, "count " + what, x.count(what), 0);
        for (int what = 11; what < 17; what++) due(1, "count " + what, x.count(what), 0);
        due(1, "few", x.few(), 0);
        due(1, "least", x.least(0, 9), 300);
        due(1, "nobody", x.personOf(0, 0), -1);
        due(1, "no plan", x.planOf(0), -3);
        new RidePools().person(0, 0, 1, 0, 0, 0, 0);
        due(1, "each object has its own", new RidePools().count(0), 0);
    }

    private static void promise2() {
        RidePools x = new RidePools();
        due(2, "300 at first", x.minutes(0, 1, 10), 300);
        due(2, "the other direction", x.minutes(1, 0, 0), 300);
        due(2, "what they were", x.minutes(0, 1, 300), 10);
        due(2, "0 may be", x.minutes(1, 0, 7), 0);
        due(2, "below", x.minutes(0, 1, -1), -4);
        due(2, "far below", x.minutes(0, 1, LOW), -4);
        due(2, "above", x.minutes(0, 1, 301), -6);
        due(2, "far above", x.minutes(0, 1, HIGH), -6);
        due(2, "refused changes nothing", x.minutes(0, 1, 1), 300);
        int[][] none = {{-1, 0}, {0, -1}, {10, 0}, {0, 10}, {4, 4}, {LOW, 0}, {0, HIGH}};
        for (int[] pair : none) {
            due(2, "no such", x.minutes(pair[0], pair[1], 5), -1);
            due(2, "-1 ahead of -4", x.minutes(pair[0], pair[1], -5), -1);
            due(2, "-1 ahead of -6", x.minutes(pair[0], pair[1], 500), -1);
        }
        due(2, "the last stops", x.minutes(9, 8, 3), 300);
    }

    private static void promise3() {
        RidePools x = Towns.line();
        due(3, "by all between", x.least(0, 9), 90);
        due(3, "back", x.least(9, 0), 300);
        due(3, "to itself", x.least(5, 5), 0);
        due(3, "one", x.least(3, 4), 10);
        x.minutes(0, 9, 89);
        due(3, "straight", x.least(0, 9), 89);
        x.minutes(0, 9, 300);
        x.minutes(4, 5, 60);
        due(3, "anew after a change", x.least(0, 9), 140);
        x.minutes(2, 7, 0);
        due(3, "by a way of 0", x.least(0, 9), 40);
        due(3, "partly back", x.least(9, 8), 300);
        x.minutes(9, 2, 1);
        due(3, "back and on", x.least(9, 8), 11);
        due(3, "not through a wall", x.least(1, 0), 300);
        due(3, "no stop", x.least(-1, 0), -1);
        due(3, "no stop", x.least(0, -1), -1);
        due(3, "no stop", x.least(10, 0), -1);
        due(3, "no stop", x.least(0, 10), -1);
        due(3, "no stop", x.least(HIGH, LOW), -1);
        due(3, "refusals", x.count(11), 5);
    }

    private static void promise4() {
        RidePools x = new RidePools();
        due(4, "the least of all", x.person(0, 0, 9, 0, 0, 0, 0), 0);
        due(4, "the greatest of all", x.person(1, 9, 0, 1440, 1440, 300, 5), 1);
        due(4, "early behind late", x.person(0, 3, 4, 900, 800, 1, 1), 2);
        int[] want = {1, 9, 0, 1440, 1440, 300, 5, 0, 0, 0, 300, 1000000000};
        for (int what = 0; what < 12; what++) due(4, "of it " + what, x.personOf(1, what), want[what]);
        int[][] stops = {{-1, 1}, {10, 1}, {1, -1}, {1, 10}, {2, 2}, {LOW, HIGH}};
        for (int[] s : stops) due(4, "stops", x.person(0, s[0], s[1], 0, 0, 0, 0), -1);
        due(4, "kind", x.person(2, 0, 1, 0, 0, 0, 0), -2);
        due(4, "kind", x.person(-1, 0, 1, 0, 0, 0, 0), -2);
        due(4, "early below", x.person(0, 0, 1, -1, 0, 0, 0), -4);
        due(4, "late below", x.person(0, 0, 1, 0, -1, 0, 0), -4);
        due(4, "detour below", x.person(0, 0, 1, 0, 0, -1, 0), -4);
        due(4, "seats below", x.person(0, 0, 1, 0, 0, 0, -1), -4);
        due(4, "early above", x.person(0, 0, 1, 1441, 0, 0, 0), -6);
        due(4, "late above", x.person(0, 0, 1, 0, 1441, 0, 0), -6);
        due(4, "detour above", x.person(0, 0, 1, 0, 0, 301, 0), -6);
        due(4, "seats above", x.person(0, 0, 1, 0, 0, 0, 6), -6);
        due(4, "nobody came", x.count(0), 3);
        for (int p = 3; p < 9; p++) due(4, "number", x.person(0, 0, 1, 0, 0, 0, 0), p);
        due(4, "nine at most", x.person(0, 0, 1, 0, 0, 0, 0), -6);
        due(4, "still nine", x.count(0), 9);
    }

    private static void promise4Order() {
        RidePools x = Towns.alike(0, 0, 0, 0, 0, 0, 0, 0, 0);
        due(4, "stops ahead of kind", x.person(7, 3, 3, -1, 2000, 0, 0), -1);
        due(4, "kind ahead of below", x.person(7, 3, 4, -1, 2000, 0, 0), -2);
        due(4, "below ahead of above", x.person(0, 3, 4, 2000, 2000, 2000, -1), -4);
        due(4, "below ahead of no room", x.person(0, 3, 4, 0, 0, 0, -1), -4);
        due(4, "kind ahead of no room", x.person(9, 3, 4, 0, 0, 0, 0), -2);
        due(4, "no room", x.person(0, 3, 4, 0, 0, 0, 0), -6);
    }

    private static void promise5() {
        RidePools x = Towns.alike(1);
        due(5, "times", x.times(0, 1440, 0), 1);
        due(5, "early", x.personOf(0, 3), 1440);
        due(5, "late", x.personOf(0, 4), 0);
        due(5, "1 also if they were so", x.times(0, 1440, 0), 1);
        due(5, "no way then", x.why(1, 0), 4);
        due(5, "times", x.times(0, 100, 110), 1);
        due(5, "a way again", x.why(1, 0), 0);
        due(5, "the cost too", x.cost(1), 10);
        due(5, "times", x.times(0, 101, 110), 1);
        due(5, "the cost too", x.cost(1), -9);
        due(5, "below", x.times(0, -1, 5), -4);
        due(5, "below", x.times(0, 5, -1), -4);
        due(5, "below ahead of above", x.times(0, 1441, -1), -4);
        due(5, "above", x.times(0, 1441, 5), -6);
        due(5, "above", x.times(0, 5, 1441), -6);
        due(5, "nobody", x.times(1, -1, 5), -1);
        due(5, "nobody", x.times(-1, 1, 5), -1);
        due(5, "unchanged", x.personOf(0, 3), 101);
        due(5, "unchanged", x.personOf(0, 4), 110);
    }

    private static void promise6() {
        RidePools x = Towns.alike(4, 4, 4);
        due(6, "none there to go", x.bar(0, 2, false), 0);
        due(6, "comes", x.bar(2, 0, true), 1);
        due(6, "is there", x.bar(0, 2, true), 0);
        due(6, "bits", x.personOf(0, 9), 4);
        due(6, "bits", x.personOf(2, 9), 1);
        due(6, "bits", x.personOf(1, 9), 0);
        due(6, "two of three", x.cost(7), -9);
        due(6, "the others", x.cost(6), 10);
        due(6, "another", x.bar(1, 0, true), 1);
        due(6, "bits", x.personOf(0, 9), 6);
        due(6, "goes", x.bar(0, 2, false), 1);
        due(6, "gone", x.bar(2, 0, false), 0);
        due(6, "the other one stays", x.personOf(0, 9), 2);
        due(6, "a cost anew", x.cost(5), 10);
        due(6, "itself", x.bar(1, 1, true), -1);
        due(6, "nobody", x.bar(3, 1, true), -1);
        due(6, "nobody", x.bar(1, 3, true), -1);
        due(6, "nobody", x.bar(-1, 1, false), -1);
        due(6, "nobody", x.bar(1, LOW, false), -1);
    }

    private static void promise7() {
        RidePools x = Towns.alike(2, 2);
        due(7, "not away", x.away(0, false), 0);
        due(7, "away", x.away(0, true), 1);
        due(7, "is away", x.away(0, true), 0);
        due(7, "told", x.personOf(0, 7), 1);
        due(7, "one is here", x.count(1), 1);
        due(7, "refused", x.cost(3), -3);
        due(7, "the other", x.cost(2), 10);
        due(7, "back", x.away(0, false), 1);
        due(7, "both", x.cost(3), 10);
        due(7, "nobody", x.away(2, true), -1);
        due(7, "nobody", x.away(-1, false), -1);
    }

    private static void promise8() {
        RidePools x = Towns.alike(2, 0);
        due(8, "plan", x.plan(), 1);
        due(8, "not broken", x.broken(0, false), 0);
        due(8, "broken", x.broken(0, true), 1);
        due(8, "is broken", x.broken(0, true), 0);
        due(8, "told", x.personOf(0, 8), 1);
        due(8, "seats stay", x.personOf(0, 6), 2);
        due(8, "no cars", x.count(2), 0);
        due(8, "the plan stays", x.planOf(0), 1);
        due(8, "its driver too", x.poolOf(1, 1), 0);
        due(8, "no cost", x.cost(3), -9);
        due(8, "whole", x.broken(0, false), 1);
        due(8, "cost", x.cost(3), 10);
        due(8, "no car, broken", x.broken(1, true), 1);
        due(8, "nobody", x.broken(2, true), -1);
        due(8, "nobody", x.broken(-1, false), -1);
    }

    private static void promise9() {
        RidePools x = Towns.neighbours();
        due(9, "alone", x.fits(1, 0), 30);
        due(9, "alone", x.fits(2, 1), 10);
        due(9, "all", x.fits(15, 0), 30);
        due(9, "all with another", x.fits(15, 3), 30);
        due(9, "one who would drive back", x.fits(3, 1), -9);
        due(9, "one who drives past", x.fits(6, 2), 20);
        RidePools y = Towns.alike(2, 1, 5);
        due(9, "seats just enough", y.fits(3, 0), 10);
        due(9, "seats not enough", y.fits(7, 0), -9);
        due(9, "his own seat", y.fits(2, 1), 10);
        due(9, "not in his", y.fits(3, 1), -9);
        due(9, "the great car", y.fits(7, 2), 10);
        y.bar(0, 1, true);
        due(9, "a bar", y.fits(7, 2), -9);
        y.broken(2, true);
        due(9, "broken", y.fits(4, 2), -9);
    }

    private static void promise9Windows() {
        RidePools x = Towns.neighbours();
        x.times(2, 400, 480);
        due(9, "the tightest late", x.way(7, 0, 0), 450);
        x.times(1, 470, 500);
        due(9, "picked up just then", x.fits(7, 0), 30);
        x.times(1, 471, 500);
        due(9, "a minute ahead", x.fits(7, 0), -9);
        x.times(1, 400, 500);
        x.times(0, 450, 500);
        due(9, "the driver just then", x.fits(7, 0), 30);
        x.times(0, 451, 500);
        due(9, "the driver a minute ahead", x.fits(7, 0), -9);
        RidePools y = Towns.line();
        y.minutes(0, 1, 300);
        y.person(0, 0, 1, 0, 300, 0, 1);
        due(9, "from minute 0", y.way(1, 0, 0), 0);
        y.times(0, 0, 299);
        due(9, "not from minute -1", y.fits(1, 0), -9);
        y.times(0, 1140, 1440);
        due(9, "to minute 1440", y.way(1, 0, 1), 1440);
        y.times(0, 1141, 1440);
        due(9, "not behind it", y.fits(1, 0), -9);
    }

    private static void promise9Detour() {
        RidePools x = Towns.line();
        x.minutes(0, 5, 5);
        x.minutes(5, 3, 30);
        x.person(0, 0, 3, 0, 1440, 4, 2);
        x.person(0, 5, 3, 0, 1440, 0, 0);
        x.person(0, 0, 3, 0, 1440, 5, 2);
        due(9, "a detour too long", x.fits(3, 0), -9);
        due(9, "a detour just so", x.fits(6, 2), 35);
        RidePools y = Towns.line();
        y.person(0, 0, 1, 0, 1440, 5, 2);
        y.person(0, 0, 3, 0, 1440, 0, 0);
        due(9, "at work first, then the car goes on", y.fits(3, 0), 30);
        due(9, "who comes first", y.way(3, 0, 12), 0);
        y.person(0, 3, 4, 0, 1440, 0, 0);
        due(9, "all are picked up ahead of any work", y.fits(5, 0), -9);
    }

    private static void promise9Refused() {
        RidePools x = Towns.alike(5, 5, 5, 5, 5);
        due(9, "four", x.fits(15, 0), 10);
        due(9, "five", x.fits(31, 0), -1);
        due(9, "empty", x.fits(0, 0), -1);
        due(9, "bits of nobody", x.fits(33, 0), -1);
        due(9, "the highest bit", x.fits(LOW | 1, 0), -1);
        due(9, "all bits", x.fits(-1, 0), -1);
        due(9, "driver not in it", x.fits(3, 2), -1);
        due(9, "no such driver", x.fits(3, -1), -1);
        due(9, "no such driver", x.fits(3, 5), -1);
        due(9, "a driver whose shift wraps", x.fits(3, 32), -1);
        x.away(1, true);
        due(9, "away", x.fits(3, 0), -3);
        due(9, "the driver away", x.fits(3, 1), -3);
        due(9, "-1 ahead of -3", x.fits(3, 2), -1);
        due(9, "five ahead of -3", x.fits(31, 0), -1);
        due(9, "without", x.fits(5, 0), 10);
        due(9, "refusals -1", x.count(11), 11);
        due(9, "refusals -3", x.count(13), 2);
    }

    private static void promise10() {
        RidePools x = Towns.alike(1, 0, 2, 5);
        due(10, "fits", x.why(1, 0), 0);
        due(10, "no car", x.why(2, 1), 1);
        due(10, "seats", x.why(3, 0), 2);
        x.bar(0, 2, true);
        due(10, "a bar", x.why(5, 2), 3);
        due(10, "seats ahead of a bar", x.why(5, 0), 2);
        x.times(0, 5, 5);
        due(10, "no way", x.why(1, 0), 4);
        due(10, "a bar ahead of no way", x.why(5, 2), 3);
        due(10, "seats ahead of no way", x.why(3, 0), 2);
        x.broken(0, true);
        due(10, "broken ahead of all", x.why(5, 0), 1);
        RidePools y = Towns.line();
        y.person(1, 0, 1, 0, 1440, 0, 1);
        y.person(1, 0, 1, 0, 1440, 0, 2);
        y.person(0, 0, 1, 0, 1440, 0, 3);
        y.person(1, 0, 1, 0, 1440, 0, 5);
        due(10, "a chair alone takes two", y.why(1, 0), 2);
        due(10, "a chair alone takes two", y.why(2, 1), 0);
        due(10, "a chair and one", y.why(6, 2), 0);
        due(10, "a chair and one", y.why(6, 1), 2);
        due(10, "two chairs and one", y.why(14, 3), 0);
        due(10, "three chairs", y.why(11, 3), 2);
        due(10, "empty", y.why(0, 0), -1);
        due(10, "not in it", y.why(1, 1), -1);
        y.away(0, true);
        due(10, "away", y.why(1, 0), -3);
    }

    private static void promise11() {
        RidePools x = Towns.neighbours();
        int[] want = {470, 500, 0, 3, 2, 1, -9, -9, -9, -9, -9, -9, 3, 0, 1, 2, -9, -9};
        for (int what = 0; what < want.length; what++) due(11, "way " + what, x.way(15, 0, what), want[what]);
        int[] pair = {480, 500, 2, 1, -9, -9};
        for (int what = 0; what < pair.length; what++) due(11, "way of two " + what, x.way(6, 2, what), pair[what]);
        due(11, "who comes to work", x.way(6, 2, 12), 1);
        due(11, "who comes to work", x.way(6, 2, 13), 2);
        due(11, "no third", x.way(6, 2, 14), -9);
        due(11, "below", x.way(6, 2, -1), -9);
        due(11, "far below", x.way(6, 2, LOW), -9);
        due(11, "far above", x.way(6, 2, HIGH), -9);
        due(11, "no way", x.way(3, 1, 0), -9);
        due(11, "refused ahead of what", x.way(3, 2, 99), -1);
        x.away(0, true);
        due(11, "away", x.way(3, 0, 99), -3);
        RidePools y = Towns.alike(5, 5, 5, 5);
        int[] first = {1430, 1440, 2, 0, 1, 3};
        for (int what = 0; what < 6; what++) due(11, "of several the first " + what, y.way(15, 2, what), first[what]);
        for (int i = 0; i < 4; i++) due(11, "of several the first, work " + i, y.way(15, 2, 12 + i), i);
        due(11, "none such is no refusal", y.count(11) + y.count(12), 0);
    }

    private static void promise12() {
        RidePools x = Towns.twoDrivers();
        due(12, "the dearer", x.fits(3, 0), 30);
        due(12, "the cheaper", x.fits(3, 1), 15);
        due(12, "the fewest", x.cost(3), 15);
        x.minutes(0, 1, 4);
        due(12, "anew after minutes", x.cost(3), 14);
        x.broken(0, true);
        due(12, "anew after broken", x.cost(3), 15);
        x.broken(1, true);
        due(12, "none", x.cost(3), -9);
        RidePools y = Towns.alike(5, 5, 5, 5, 5);
        due(12, "four", y.cost(30), 10);
        due(12, "five", y.cost(31), -1);
        due(12, "empty", y.cost(0), -1);
        due(12, "nobody's bits", y.cost(32), -1);
        due(12, "nobody's bits", y.cost(-1), -1);
        due(12, "the highest bit", y.cost(LOW), -1);
        y.away(4, true);
        due(12, "away", y.cost(16), -3);
        due(12, "five ahead of away", y.cost(31), -1);
    }

    private static void promise13() {
        RidePools x = Towns.twoDrivers();
        due(13, "the cheaper", x.driver(3), 1);
        x.minutes(0, 1, 5);
        due(13, "of several the least", x.driver(3), 0);
        x.broken(0, true);
        due(13, "the other", x.driver(3), 1);
        x.broken(1, true);
        due(13, "none", x.driver(3), -9);
        due(13, "empty", x.driver(0), -1);
        due(13, "nobody's bits", x.driver(4), -1);
        x.away(0, true);
        due(13, "away", x.driver(1), -3);
        due(13, "more than four", Towns.alike(5, 5, 5, 5, 5).driver(31), -1);
    }

    private static void promise14() {
        RidePools x = Towns.twoDrivers();
        due(14, "of several the least, not the cheapest", x.turn(3), 0);
        x.plan();
        due(14, "the plan's driver", x.poolOf(0, 1), 1);
        x.mornings(1);
        due(14, "the fewest points", x.turn(3), 0);
        x.broken(0, true);
        due(14, "only whom it fits", x.turn(3), 1);
        x.broken(1, true);
        due(14, "none", x.turn(3), -9);
        x.broken(0, false);
        x.broken(1, false);
        x.plan();
        x.even();
        x.mornings(5);
        due(14, "the other one now", x.turn(3), 1);
        due(14, "alone", x.turn(1), 0);
        due(14, "empty", x.turn(0), -1);
        due(14, "nobody's bits", x.turn(-2), -1);
        x.away(1, true);
        due(14, "away", x.turn(2), -3);
        due(14, "more than four", Towns.alike(5, 5, 5, 5, 5).turn(31), -1);
    }

    private static void promise15() {
        RidePools x = new RidePools();
        due(15, "nobody", x.plan(), 0);
        due(15, "there is a plan", x.count(3), 1);
        RidePools y = Towns.line();
        y.minutes(3, 1, 200);
        y.person(0, 0, 1, 0, 1440, 300, 5);
        y.person(0, 2, 3, 0, 1440, 300, 5);
        due(15, "one pool would do", y.few(), 1);
        due(15, "but takes more minutes", y.plan(), 2);
        due(15, "minutes", y.planOf(2), 20);
        y.broken(1, true);
        due(15, "fewer left ahead of minutes", y.plan(), 1);
        due(15, "minutes", y.planOf(2), 230);
        due(15, "none left", y.planOf(1), 0);
        y.bar(0, 1, true);
        due(15, "left", y.plan(), 1);
        due(15, "left", y.planOf(1), 1);
        y.away(1, true);
        due(15, "away is not left", y.plan(), 1);
        due(15, "away is not left", y.planOf(1), 0);
        due(15, "as it was then", y.poolOf(0, 0), 1);
        due(15, "nine in three", Towns.alike(4, 0, 0, 0, 4, 0, 0, 0, 1).plan(), 3);
        due(15, "four at most", Towns.alike(5, 5, 5, 5, 5).plan(), 2);
    }

    private static void promise15Ties() {
        RidePools x = Towns.alike(2, 2, 2);
        due(15, "two and one", x.plan(), 2);
        due(15, "the lesser set of the first", x.poolOf(0, 0), 1);
        due(15, "the others", x.poolOf(1, 0), 6);
        due(15, "the others", x.poolOf(2, 0), 6);
        RidePools y = new RidePools();
        y.minutes(0, 1, 0);
        y.person(0, 0, 1, 0, 1440, 0, 2);
        y.person(0, 0, 1, 0, 1440, 0, 2);
        due(15, "as many minutes, fewer pools", y.plan(), 1);
        due(15, "no minutes", y.planOf(2), 0);
        RidePools z = Towns.alike(4, 4, 4, 4, 4, 4);
        due(15, "six", z.plan(), 2);
        int[] want = {3, 3, 60, 60, 60, 60};
        for (int p = 0; p < 6; p++) due(15, "pool of " + p, z.poolOf(p, 0), want[p]);
        RidePools f = Towns.alike(4, 4, 4, 4, 4);
        due(15, "five", f.plan(), 2);
        due(15, "the first alone", f.poolOf(0, 0), 1);
        due(15, "the others", f.poolOf(4, 0), 30);
        due(15, "who drives them", f.poolOf(4, 1), 1);
    }

    private static void promise15Left() {
        RidePools x = Towns.alike(0, 0, 2);
        due(15, "one pool", x.plan(), 1);
        due(15, "the first is left, for 0 is the least", x.poolOf(0, 0), 0);
        due(15, "the others", x.poolOf(1, 0), 6);
        RidePools y = Towns.alike(2, 0, 0);
        due(15, "one pool", y.plan(), 1);
        due(15, "the lesser set", y.poolOf(0, 0), 3);
        due(15, "left", y.poolOf(2, 0), 0);
        y.times(1, 700, 700);
        due(15, "one pool", y.plan(), 1);
        due(15, "who can", y.poolOf(0, 0), 5);
        due(15, "left", y.planOf(1), 1);
    }

    private static void promise16() {
        RidePools x = Towns.alike(3, 0, 0, 0, 1);
        for (int what = -1; what < 5; what++) due(16, "no plan " + what, x.planOf(what), -3);
        x.plan();
        int[] want = {2, 1, 20, 4};
        for (int what = 0; what < 4; what++) due(16, "of the plan " + what, x.planOf(what), want[what]);
        due(16, "other", x.planOf(4), -2);
        due(16, "other", x.planOf(-1), -2);
        due(16, "other", x.planOf(HIGH), -2);
        x.minutes(0, 1, 50);
        x.away(1, true);
        x.person(0, 0, 1, 0, 1440, 0, 5);
        for (int what = 0; what < 4; what++) due(16, "as it was then " + what, x.planOf(what), want[what]);
    }

    private static void promise17() {
        RidePools x = Towns.neighbours();
        due(17, "no plan ahead of nobody", x.poolOf(9, 9), -3);
        x.plan();
        int[][] want = {{15, 0, 470, 500}, {15, 0, 490, 500}, {15, 0, 480, 500}, {15, 0, 470, 490}};
        x.times(0, 0, 0);
        x.minutes(0, 1, 1);
        for (int p = 0; p < 4; p++) {
            for (int what = 0; what < 4; what++) due(17, "of " + p + " " + what, x.poolOf(p, what), want[p][what]);
        }
        x.person(0, 0, 1, 0, 1440, 0, 5);
        due(17, "came later", x.poolOf(4, 0), 0);
        for (int what = 1; what < 4; what++) due(17, "came later " + what, x.poolOf(4, what), -9);
        x.plan();
        due(17, "left", x.poolOf(0, 0), 0);
        for (int what = 1; what < 4; what++) due(17, "left " + what, x.poolOf(0, what), -9);
        due(17, "nobody ahead of other", x.poolOf(5, 9), -1);
        due(17, "nobody", x.poolOf(-1, 0), -1);
        due(17, "other", x.poolOf(0, 4), -2);
        due(17, "other", x.poolOf(4, -1), -2);
        x.away(4, true);
        due(17, "away, but in the plan", x.poolOf(4, 0) != 0 ? 1 : 0, 1);
        x.plan();
        due(17, "away when it was made", x.poolOf(4, 0), 0);
        due(17, "away when it was made", x.poolOf(4, 1), -9);
    }

    private static void promise18() {
        RidePools x = Towns.alike(2, 2);
        due(18, "no plan", x.same(), -3);
        x.plan();
        due(18, "just made", x.same(), 1);
        x.minutes(0, 1, 11);
        due(18, "other minutes", x.same(), 0);
        due(18, "the plan is not changed by it", x.planOf(2), 10);
        x.minutes(0, 1, 10);
        due(18, "again", x.same(), 1);
        x.away(1, true);
        due(18, "one less, with the same numbers", x.same(), 1);
        x.away(0, true);
        due(18, "none", x.same(), 0);
        x.away(0, false);
        x.broken(0, true);
        due(18, "left", x.same(), 0);
        RidePools y = new RidePools();
        y.minutes(0, 1, 0);
        y.person(0, 0, 1, 0, 1440, 0, 2);
        y.person(0, 0, 1, 0, 1440, 0, 2);
        y.plan();
        y.bar(0, 1, true);
        due(18, "only the pools differ", y.same(), 0);
    }

    private static void promise19() {
        RidePools x = Towns.twoDrivers();
        due(19, "no plan", x.even(), -3);
        x.plan();
        due(19, "the cheapest drives", x.poolOf(0, 1), 1);
        due(19, "the turn of the least", x.even(), 1);
        due(19, "who drives now", x.poolOf(1, 1), 0);
        due(19, "the way for him", x.planOf(2), 30);
        due(19, "picked up", x.poolOf(1, 2), 1430);
        due(19, "points are not changed", x.personOf(0, 11), 1000000000);
        due(19, "not again", x.even(), 0);
        x.mornings(1);
        due(19, "the other's turn", x.even(), 1);
        due(19, "who drives now", x.poolOf(0, 1), 1);
        x.minutes(1, 0, 8);
        due(19, "the same driver", x.even(), 0);
        due(19, "but the way as it is now", x.planOf(2), 18);
        due(19, "the driver is picked up then", x.poolOf(1, 2), 1422);
        RidePools y = Towns.alike(4, 4, 4, 4, 4, 4, 4, 4);
        y.plan();
        y.mornings(2);
        due(19, "two pools", y.even(), 2);
        due(19, "the next by number", y.poolOf(0, 1), 1);
    }

    private static void promise19Stays() {
        RidePools x = Towns.twoDrivers();
        x.plan();
        x.away(0, true);
        due(19, "one is away", x.even(), 0);
        due(19, "stays", x.poolOf(1, 1), 1);
        x.away(0, false);
        x.bar(0, 1, true);
        due(19, "fits none", x.even(), 0);
        due(19, "stays", x.planOf(2), 15);
        x.bar(0, 1, false);
        x.broken(0, true);
        due(19, "only one can", x.even(), 0);
        due(19, "it drives", x.poolOf(0, 1), 1);
        x.broken(0, false);
        x.broken(1, true);
        due(19, "the other can", x.even(), 1);
        due(19, "it drives", x.poolOf(0, 1), 0);
        RidePools y = Towns.alike(1);
        y.plan();
        y.minutes(0, 1, 17);
        due(19, "alone", y.even(), 0);
        due(19, "its way anew too", y.planOf(2), 17);
        y.times(0, 5, 5);
        y.even();
        due(19, "fits none, stays", y.planOf(2), 17);
    }

    private static void promise20() {
        RidePools x = Towns.alike(4, 0, 0, 0, 1);
        due(20, "no plan", x.mornings(0), -3);
        x.plan();
        due(20, "below", x.mornings(0), -4);
        due(20, "below", x.mornings(LOW), -4);
        due(20, "above", x.mornings(1001), -6);
        due(20, "above", x.mornings(HIGH), -6);
        due(20, "none so far", x.count(4), 0);
        due(20, "one", x.mornings(1), 1);
        int[] want = {3, -1, -1, -1, 0};
        for (int p = 0; p < 5; p++) due(20, "points of " + p, x.personOf(p, 11), 1000000000 + want[p]);
        due(20, "the most", x.mornings(1000), 1000);
        for (int p = 0; p < 5; p++) due(20, "points of " + p, x.personOf(p, 11), 1000000000 + 1001 * want[p]);
        due(20, "so far", x.count(4), 1001);
        x.away(0, true);
        x.broken(0, true);
        x.mornings(1);
        due(20, "by the plan, as it was", x.personOf(0, 11), 1000003006);
        x.plan();
        x.mornings(7);
        due(20, "mornings go on", x.count(4), 1009);
        due(20, "a new plan keeps points", x.personOf(0, 11), 1000003006);
    }

    private static void promise21() {
        RidePools x = Towns.alike(2, 2, 0);
        due(21, "no plan ahead of nobody", x.fail(9), -3);
        due(21, "nothing broken", x.personOf(0, 8), 0);
        x.plan();
        due(21, "nobody", x.fail(3), -1);
        due(21, "nobody", x.fail(-1), -1);
        due(21, "the pools", x.poolOf(0, 0), 1);
        due(21, "one who drives none", x.fail(2), 0);
        due(21, "is broken all the same", x.personOf(2, 8), 1);
        due(21, "the plan stays", x.planOf(0), 2);
        due(21, "1 and 2 lose their car, 1 joins 0, 2 has no seat", x.fail(1), 1);
        due(21, "joined", x.poolOf(1, 0), 3);
        due(21, "left", x.poolOf(2, 0), 0);
        due(21, "left", x.planOf(1), 1);
        due(21, "pools", x.planOf(0), 1);
        due(21, "minutes", x.planOf(2), 10);
        due(21, "in pools", x.planOf(3), 2);
        due(21, "again, it drives none now", x.fail(1), 0);
        due(21, "the last car", x.fail(0), 2);
        due(21, "no pools", x.planOf(0), 0);
        due(21, "left", x.planOf(1), 3);
        due(21, "no minutes", x.planOf(2), 0);
        x.broken(0, false);
        due(21, "the left stay left", x.fail(2), 0);
        due(21, "the left stay left", x.planOf(1), 3);
        RidePools y = Towns.alike(3, 0, 1);
        y.plan();
        y.broken(0, true);
        due(21, "broken already, its pool is no more all the same", y.fail(0), 2);
        due(21, "2 has a pool of its own", y.poolOf(2, 0), 4);
    }

    private static void promise21Join() {
        RidePools x = Towns.alike(3, 2, 4);
        x.plan();
        due(21, "all in one", x.poolOf(0, 0), 7);
        due(21, "0 finds none, 1 takes its own, 2 joins it", x.fail(0), 1);
        due(21, "0 is left, though 1 has a car: by numbers", x.poolOf(0, 0), 0);
        due(21, "a pool of 1's own", x.poolOf(1, 0), 6);
        due(21, "which 1 drives", x.poolOf(2, 1), 1);
        RidePools y = Towns.line();
        y.person(0, 0, 1, 0, 100, 0, 3);
        y.person(0, 0, 1, 200, 300, 0, 3);
        y.person(0, 0, 1, 0, 300, 0, 5);
        y.person(0, 0, 1, 400, 500, 0, 5);
        y.times(2, 400, 500);
        y.plan();
        due(21, "three pools", y.planOf(0), 3);
        y.times(2, 0, 300);
        y.times(3, 0, 300);
        due(21, "both join the first by its least person", y.fail(2), 0);
        due(21, "the first", y.poolOf(2, 0), 13);
        due(21, "its way anew", y.poolOf(3, 3), 100);
        due(21, "its way anew", y.poolOf(0, 3), 100);
        due(21, "the second is as it was", y.poolOf(1, 0), 2);
        due(21, "pools", y.planOf(0), 2);
        RidePools z = Towns.line();
        z.person(0, 0, 1, 0, 100, 0, 5);
        z.person(0, 0, 1, 200, 300, 0, 5);
        z.plan();
        z.times(0, 0, 300);
        z.fail(0);
        due(21, "0 joins 1, whose driver stays", z.poolOf(0, 1), 1);
        due(21, "one pool", z.planOf(0), 1);
        RidePools f = Towns.alike(5, 5, 5, 5, 5);
        f.plan();
        due(21, "no fifth in a pool", f.fail(0), 1);
        due(21, "left", f.planOf(1), 1);
    }

    private static void promise21Away() {
        RidePools x = Towns.alike(5, 5, 5);
        x.plan();
        x.away(1, true);
        due(21, "away is left, and 0 finds none, 2 takes its own", x.fail(0), 2);
        due(21, "left", x.planOf(1), 2);
        due(21, "its own", x.poolOf(2, 0), 4);
        RidePools y = Towns.line();
        y.person(0, 0, 1, 0, 100, 0, 5);
        y.person(0, 0, 1, 200, 300, 0, 5);
        y.person(0, 0, 1, 400, 500, 0, 5);
        y.plan();
        due(21, "three pools", y.planOf(0), 3);
        y.times(2, 0, 500);
        y.away(0, true);
        due(21, "nobody joins one who is away", y.fail(2), 0);
        due(21, "joined the next", y.poolOf(2, 0), 6);
        due(21, "the away driver fails", y.fail(0), 1);
        due(21, "it is left", y.planOf(1), 1);
        due(21, "it is left", y.poolOf(0, 0), 0);
        RidePools z = Towns.alike(5, 5);
        z.plan();
        z.broken(0, true);
        z.person(0, 0, 1, 0, 1440, 0, 1);
        due(21, "one who came later has no part in it", z.fail(2), 0);
        due(21, "0 finds none, 1 its own", z.fail(0), 1);
    }

    private static void promise22() {
        due(22, "nobody", new RidePools().few(), 0);
        due(22, "nine in three", Towns.alike(5, 5, 5, 5, 5, 5, 5, 5, 5).few(), 3);
        due(22, "eight in two", Towns.alike(4, 0, 0, 0, 0, 0, 0, 4).few(), 2);
        due(22, "no way", Towns.alike(3, 0, 0, 0).few(), -9);
        RidePools x = Towns.line();
        x.minutes(3, 1, 200);
        x.person(0, 0, 1, 0, 1440, 300, 5);
        x.person(0, 2, 3, 0, 1440, 300, 5);
        due(22, "minutes not looked at", x.few(), 1);
        x.bar(0, 1, true);
        due(22, "a bar", x.few(), 2);
        x.broken(1, true);
        due(22, "one would be left", x.few(), -9);
        x.away(1, true);
        due(22, "away", x.few(), 1);
        x.away(0, true);
        due(22, "all away", x.few(), 0);
        due(22, "it makes no plan", x.count(3), 0);
        RidePools y = Towns.alike(2, 0);
        y.plan();
        y.bar(0, 1, true);
        y.few();
        due(22, "the plan stays", y.poolOf(1, 0), 3);
    }

    private static void promise23() {
        RidePools x = Towns.line();
        x.person(1, 2, 7, 300, 900, 33, 4);
        x.person(0, 7, 2, 1, 2, 3, 0);
        int[] want = {1, 2, 7, 300, 900, 33, 4, 0, 0, 0, 50, 1000000000};
        for (int what = 0; what < 12; what++) due(23, "of 0 " + what, x.personOf(0, what), want[what]);
        x.away(0, true);
        x.broken(0, true);
        x.bar(1, 0, true);
        x.minutes(2, 7, 49);
        due(23, "away", x.personOf(0, 7), 1);
        due(23, "broken", x.personOf(0, 8), 1);
        due(23, "bars", x.personOf(0, 9), 2);
        due(23, "bars", x.personOf(1, 9), 1);
        due(23, "least", x.personOf(0, 10), 49);
        due(23, "least back", x.personOf(1, 10), 300);
        due(23, "other", x.personOf(0, 12), -2);
        due(23, "other", x.personOf(0, -1), -2);
        due(23, "other", x.personOf(0, LOW), -2);
        due(23, "nobody ahead of other", x.personOf(2, 12), -1);
        due(23, "nobody", x.personOf(-1, 0), -1);
        due(23, "nobody", x.personOf(HIGH, 0), -1);
    }

    private static void promise24() {
        RidePools x = Towns.alike(1, 0, 5);
        due(24, "persons", x.count(0), 3);
        due(24, "here", x.count(1), 3);
        due(24, "cars", x.count(2), 2);
        x.away(0, true);
        due(24, "here", x.count(1), 2);
        due(24, "the cars of the away count", x.count(2), 2);
        x.broken(2, true);
        x.broken(1, true);
        due(24, "cars", x.count(2), 1);
        due(24, "no plan", x.count(3), 0);
        x.plan();
        due(24, "a plan", x.count(3), 1);
        x.mornings(3);
        x.mornings(4);
        due(24, "mornings", x.count(4), 7);
        x.least(-1, 0);
        x.planOf(9);
        x.planOf(9);
        x.cost(1);
        x.mornings(0);
        x.mornings(1001);
        x.mornings(1001);
        int[] want = {1, 2, 1, 1, 0, 2};
        for (int i = 0; i < 6; i++) due(24, "refusals " + (i + 1), x.count(11 + i), want[i]);
        int[] others = {-1, 5, 6, 7, 8, 9, 10, 17, 18, LOW, HIGH};
        for (int what : others) due(24, "another what", x.count(what), -9);
        for (int i = 0; i < 6; i++) due(24, "that was no refusal " + (i + 1), x.count(11 + i), want[i]);
        x.cost(4);
        x.way(4, 2, 0);
        due(24, "-9 is none either", x.count(11) + x.count(12) + x.count(13), 4);
    }

    /** A refused call raises the count of its own number by one, and no other. */
    private static void refused(RidePools x, String name, int number, IntSupplier call) {
        int[] before = new int[6];
        for (int i = 0; i < 6; i++) before[i] = x.count(11 + i);
        due(24, name, call.getAsInt(), number);
        for (int i = 0; i < 6; i++) {
            due(24, name + ", refusals -" + (i + 1), x.count(11 + i), before[i] + (number == -1 - i ? 1 : 0));
        }
    }

    private static void promise24Refusals() {
        RidePools x = Towns.alike(5, 5);
        refused(x, "minutes", -1, () -> x.minutes(0, 0, 0));
        refused(x, "minutes", -4, () -> x.minutes(0, 1, -1));
        refused(x, "minutes", -6, () -> x.minutes(0, 1, 301));
        refused(x, "least", -1, () -> x.least(0, 10));
        refused(x, "person", -1, () -> x.person(0, 0, 0, 0, 0, 0, 0));
        refused(x, "person", -2, () -> x.person(2, 0, 1, 0, 0, 0, 0));
        refused(x, "person", -4, () -> x.person(0, 0, 1, 0, 0, -1, 0));
        refused(x, "person", -6, () -> x.person(0, 0, 1, 0, 0, 0, 6));
        refused(x, "times", -1, () -> x.times(2, 0, 0));
        refused(x, "times", -4, () -> x.times(0, 0, -1));
        refused(x, "times", -6, () -> x.times(0, 0, 1441));
        refused(x, "bar", -1, () -> x.bar(0, 0, true));
        refused(x, "away", -1, () -> x.away(2, true));
        refused(x, "broken", -1, () -> x.broken(2, true));
        refused(x, "fits", -1, () -> x.fits(1, 1));
        refused(x, "why", -1, () -> x.why(1, 1));
        refused(x, "way", -1, () -> x.way(1, 1, 0));
        refused(x, "cost", -1, () -> x.cost(0));
        refused(x, "driver", -1, () -> x.driver(0));
        refused(x, "turn", -1, () -> x.turn(0));
        refused(x, "personOf", -1, () -> x.personOf(2, 0));
        refused(x, "personOf", -2, () -> x.personOf(0, 12));
        x.away(1, true);
        refused(x, "fits", -3, () -> x.fits(3, 0));
        refused(x, "why", -3, () -> x.why(3, 0));
        refused(x, "way", -3, () -> x.way(3, 0, 0));
        refused(x, "cost", -3, () -> x.cost(3));
        refused(x, "driver", -3, () -> x.driver(3));
        refused(x, "turn", -3, () -> x.turn(3));
    }

    private static void promise24RefusalsOfThePlan() {
        RidePools x = Towns.alike(5, 5);
        refused(x, "planOf", -3, () -> x.planOf(0));
        refused(x, "poolOf", -3, () -> x.poolOf(0, 0));
        refused(x, "same", -3, () -> x.same());
        refused(x, "even", -3, () -> x.even());
        refused(x, "mornings", -3, () -> x.mornings(1));
        refused(x, "fail", -3, () -> x.fail(0));
        x.plan();
        refused(x, "planOf", -2, () -> x.planOf(4));
        refused(x, "poolOf", -1, () -> x.poolOf(2, 0));
        refused(x, "poolOf", -2, () -> x.poolOf(0, 4));
        refused(x, "mornings", -4, () -> x.mornings(0));
        refused(x, "mornings", -6, () -> x.mornings(1001));
        refused(x, "fail", -1, () -> x.fail(2));
    }
}
