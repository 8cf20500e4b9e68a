import java.util.function.IntSupplier;

/**
 * For each sentence of promises 1 to 24 that names a boundary: calls on both sides of it, and each pair of REFUSALS
 * that a call can meet at once, in the order in which the promise tells them.
 */
public final class CallEdgesTest {
    private static final int LOW = Integer.MIN_VALUE;
    private static final int HIGH = Integer.MAX_VALUE;
    private static final Answers answers = new Answers("CallEdgesTest");

    private static void due(String sentence, String side, int got, int want) {
        answers.due(sentence, side, got, want);
    }

    public static void main(String[] args) {
        newObject();
        minutesStops();
        minutesNumber();
        least();
        personStops();
        personKind();
        personBelow();
        personAbove();
        personRoom();
        personOrder();
        times();
        timesEdges();
        bar();
        barNobody();
        away();
        broken();
        setsOfNobody();
        setsAndDrivers();
        setsOfFive();
        setsAway();
        fitsAndWhy();
        why();
        way();
        costDriverTurn();
        plan();
        planOf();
        poolOf();
        poolOfWithout();
        same();
        even();
        mornings();
        fail();
        failAnswers();
        few();
        personOf();
        personOfValues();
        count();
        countValues();
        countRefusals();
        answers.close();
    }

    private static void newObject() {
        String says = "RidePools(): Nobody";
        RidePools x = new RidePools();
        due(says, "no PERSONS", x.count(0), 0);
        due(says, "none here", x.count(1), 0);
        due(says, "no cars", x.count(2), 0);
        due(says, "no PLAN", x.count(3), 0);
        due(says, "no MORNINGS", x.count(4), 0);
        for (int what = 11; what <= 16; what++) due(says, "no REFUSALS", x.count(what), 0);
        due(says, "no POOLS are needed", x.few(), 0);
        due(says, "no PERSON 0", x.away(0, true), -1);
        due(says, "the first is 0", x.person(0, 0, 1, 0, 0, 0, 0), 0);
        due(says, "one PERSON", x.count(0), 1);
    }

    private static void minutesStops() {
        String says = "minutes: -1 (also to itself)";
        RidePools x = new RidePools();
        due(says, "from 0", x.minutes(0, 5, 10), 300);
        due(says, "from 9", x.minutes(9, 5, 10), 300);
        due(says, "to 0", x.minutes(5, 0, 10), 300);
        due(says, "to 9", x.minutes(5, 9, 10), 300);
        int[] none = {-1, 10, LOW, HIGH, -10, 16, 32};
        for (int s : none) {
            due(says, "from " + s, x.minutes(s, 5, 10), -1);
            due(says, "to " + s, x.minutes(5, s, 10), -1);
            due(says, "from and to " + s, x.minutes(s, s, 10), -1);
        }
        for (int s = 0; s < 10; s++) due(says, s + " to itself", x.minutes(s, s, 10), -1);
        due(says, "to the next one", x.minutes(4, 5, 10), 300);
    }

    private static void minutesNumber() {
        String says = "minutes: MINUTES from a STOP to another one: what they were. -1; -4; -6";
        RidePools x = new RidePools();
        due(says, "they were 300", x.minutes(0, 1, 0), 300);
        due(says, "they were 0", x.minutes(0, 1, 300), 0);
        int[] below = {-1, -300, LOW};
        for (int n : below) {
            due(says, n + " is below", x.minutes(0, 1, n), -4);
            due(says, "-1 ahead of -4", x.minutes(0, 10, n), -1);
            due(says, "-1 ahead of -4, to itself", x.minutes(0, 0, n), -1);
        }
        int[] above = {301, 1440, HIGH};
        for (int n : above) {
            due(says, n + " is above", x.minutes(0, 1, n), -6);
            due(says, "-1 ahead of -6", x.minutes(-1, 1, n), -1);
            due(says, "-1 ahead of -6, to itself", x.minutes(1, 1, n), -1);
        }
        due(says, "they were 300 still", x.minutes(0, 1, 299), 300);
        due(says, "they were 299", x.minutes(0, 1, 299), 299);
        due(says, "the other direction", x.minutes(1, 0, 1), 300);
    }

    private static void least() {
        String says = "least: LEAST. -1";
        RidePools x = Towns.line();
        due(says, "0 to 9", x.least(0, 9), 90);
        due(says, "9 to 0", x.least(9, 0), 300);
        int[] none = {-1, 10, LOW, HIGH};
        for (int s : none) {
            due(says, "from " + s, x.least(s, 0), -1);
            due(says, "to " + s, x.least(9, s), -1);
            due(says, s + " to itself", x.least(s, s), -1);
        }
        due(says, "0 to itself", x.least(0, 0), 0);
    }

    private static void personStops() {
        String says = "person: -1 (STOPS; one for both)";
        RidePools x = new RidePools();
        int[] none = {-1, 10, LOW, HIGH};
        for (int s : none) {
            due(says, "HOUSE " + s, x.person(0, s, 0, 0, 0, 0, 0), -1);
            due(says, "WORK " + s, x.person(0, 9, s, 0, 0, 0, 0), -1);
        }
        for (int s = 0; s < 10; s++) due(says, s + " for both", x.person(0, s, s, 0, 0, 0, 0), -1);
        due(says, "0 and 9", x.person(0, 0, 9, 0, 0, 0, 0), 0);
        due(says, "9 and 0", x.person(0, 9, 0, 0, 0, 0, 0), 1);
        due(says, "4 and 5", x.person(0, 4, 5, 0, 0, 0, 0), 2);
    }

    private static void personKind() {
        String says = "person: -2";
        RidePools x = new RidePools();
        int[] others = {-1, 2, LOW, HIGH, 256};
        for (int kind : others) due(says, "KIND " + kind, x.person(kind, 0, 1, 0, 0, 0, 0), -2);
        due(says, "RIDER", x.person(0, 0, 1, 0, 0, 0, 0), 0);
        due(says, "CHAIR", x.person(1, 0, 1, 0, 0, 0, 0), 1);
        due(says, "RIDER", x.personOf(0, 0), 0);
        due(says, "CHAIR", x.personOf(1, 0), 1);
    }

    private static void personBelow() {
        String says = "person: -4 early, late, detour, seats below 0";
        RidePools x = new RidePools();
        int[] below = {-1, LOW};
        for (int n : below) {
            due(says, "EARLY " + n, x.person(0, 0, 1, n, 0, 0, 0), -4);
            due(says, "LATE " + n, x.person(0, 0, 1, 0, n, 0, 0), -4);
            due(says, "DETOUR " + n, x.person(0, 0, 1, 0, 0, n, 0), -4);
            due(says, "SEATS " + n, x.person(0, 0, 1, 0, 0, 0, n), -4);
        }
        due(says, "nobody came", x.count(0), 0);
        due(says, "0 for all", x.person(0, 0, 1, 0, 0, 0, 0), 0);
        for (int what = 3; what <= 6; what++) due(says, "of it " + what, x.personOf(0, what), 0);
    }

    private static void personAbove() {
        String says = "person: -6 early, late above 1440, detour above 300, seats above 5";
        RidePools x = new RidePools();
        due(says, "EARLY 1441", x.person(0, 0, 1, 1441, 0, 0, 0), -6);
        due(says, "LATE 1441", x.person(0, 0, 1, 0, 1441, 0, 0), -6);
        due(says, "DETOUR 301", x.person(0, 0, 1, 0, 0, 301, 0), -6);
        due(says, "SEATS 6", x.person(0, 0, 1, 0, 0, 0, 6), -6);
        due(says, "EARLY far above", x.person(0, 0, 1, HIGH, 0, 0, 0), -6);
        due(says, "LATE far above", x.person(0, 0, 1, 0, HIGH, 0, 0), -6);
        due(says, "DETOUR far above", x.person(0, 0, 1, 0, 0, HIGH, 0), -6);
        due(says, "SEATS far above", x.person(0, 0, 1, 0, 0, 0, HIGH), -6);
        due(says, "nobody came", x.count(0), 0);
        due(says, "EARLY 1440", x.person(0, 0, 1, 1440, 0, 0, 0), 0);
        due(says, "LATE 1440", x.person(0, 0, 1, 0, 1440, 0, 0), 1);
        due(says, "DETOUR 300", x.person(0, 0, 1, 0, 0, 300, 0), 2);
        due(says, "SEATS 5", x.person(0, 0, 1, 0, 0, 0, 5), 3);
        for (int p = 0; p < 4; p++) {
            int[] want = {1440, 1440, 300, 5};
            for (int i = 0; i < 4; i++) due(says, "of " + p, x.personOf(p, 3 + i), i == p ? want[i] : 0);
        }
    }

    private static void personRoom() {
        String says = "person: -6 .. 9 PERSONS";
        RidePools x = new RidePools();
        for (int p = 0; p < 8; p++) x.person(0, 0, 1, 0, 0, 0, 0);
        due(says, "with 8", x.person(0, 0, 1, 0, 0, 0, 0), 8);
        due(says, "with 9", x.person(0, 0, 1, 0, 0, 0, 0), -6);
        x.away(0, true);
        due(says, "AWAY makes no room", x.person(0, 0, 1, 0, 0, 0, 0), -6);
        due(says, "nine", x.count(0), 9);
    }

    private static void personOrder() {
        String says = "person: -1; -2; -4; -6, the first that fits";
        for (int persons = 8; persons <= 9; persons++) {
            RidePools x = new RidePools();
            for (int p = 0; p < persons; p++) x.person(0, 0, 1, 0, 0, 0, 0);
            due(says, "-1 ahead of -2", x.person(2, 0, 0, 0, 0, 0, 0), -1);
            due(says, "-1 ahead of -4", x.person(0, 0, 10, -1, 0, 0, 0), -1);
            due(says, "-1 ahead of -6", x.person(0, -1, 1, 0, 0, 0, 6), -1);
            due(says, "-2 ahead of -4", x.person(2, 0, 1, 0, -1, 0, 0), -2);
            due(says, "-2 ahead of -6", x.person(-1, 0, 1, 0, 1441, 0, 0), -2);
            due(says, "-4 of SEATS ahead of -6 of EARLY", x.person(0, 0, 1, 1441, 0, 0, -1), -4);
            due(says, "-4 of DETOUR ahead of -6 of LATE", x.person(0, 0, 1, 0, 1441, -1, 0), -4);
            due(says, "-4 of LATE ahead of -6 of EARLY", x.person(0, 0, 1, 1441, -1, 0, 0), -4);
            due(says, "-4 of EARLY ahead of -6 of SEATS", x.person(0, 0, 1, -1, 0, 0, 6), -4);
            due(says, "all at once", x.person(9, 9, 9, -1, 1441, 301, -1), -1);
            due(says, "none of them", x.person(0, 0, 1, 0, 0, 0, 0), persons == 8 ? 8 : -6);
        }
    }

    private static void times() {
        String says = "times: EARLY and LATE of a PERSON: 1";
        RidePools x = Towns.alike(1, 1);
        due(says, "both", x.times(1, 700, 800), 1);
        due(says, "EARLY", x.personOf(1, 3), 700);
        due(says, "LATE", x.personOf(1, 4), 800);
        due(says, "as they are", x.times(1, 700, 800), 1);
        due(says, "not the other's EARLY", x.personOf(0, 3), 0);
        due(says, "not the other's LATE", x.personOf(0, 4), 1440);
        due(says, "a WAY from 700 to 800", x.cost(2), 10);
        due(says, "for EARLY and LATE 10 apart", x.times(1, 790, 800), 1);
        due(says, "there is a WAY", x.cost(2), 10);
        due(says, "for EARLY and LATE 9 apart", x.times(1, 791, 800), 1);
        due(says, "there is none", x.cost(2), -9);
        due(says, "one LEFT", x.plan() - x.planOf(1), 0);
        due(says, "EARLY behind LATE", x.times(1, 800, 700), 1);
        x.away(1, true);
        due(says, "one who is AWAY", x.times(1, 1, 2), 1);
        due(says, "EARLY", x.personOf(1, 3), 1);
    }

    private static void timesEdges() {
        String says = "times: -1; -4; -6";
        RidePools x = Towns.alike(1, 1);
        due(says, "the first", x.times(0, 0, 0), 1);
        due(says, "the last", x.times(1, 1440, 1440), 1);
        int[] nobody = {-1, 2, 9, LOW, HIGH};
        for (int p : nobody) {
            due(says, "nobody " + p, x.times(p, 0, 0), -1);
            due(says, "-1 ahead of -4", x.times(p, -1, 0), -1);
            due(says, "-1 ahead of -6", x.times(p, 0, 1441), -1);
        }
        due(says, "EARLY below", x.times(0, -1, 0), -4);
        due(says, "LATE below", x.times(0, 0, -1), -4);
        due(says, "EARLY far below", x.times(0, LOW, 0), -4);
        due(says, "LATE far below", x.times(0, 0, LOW), -4);
        due(says, "EARLY above", x.times(0, 1441, 0), -6);
        due(says, "LATE above", x.times(0, 0, 1441), -6);
        due(says, "EARLY far above", x.times(0, HIGH, 0), -6);
        due(says, "LATE far above", x.times(0, 0, HIGH), -6);
        due(says, "-4 of LATE ahead of -6 of EARLY", x.times(0, 1441, -1), -4);
        due(says, "-4 of EARLY ahead of -6 of LATE", x.times(0, -1, 1441), -4);
        due(says, "EARLY as it was", x.personOf(0, 3), 0);
        due(says, "LATE as it was", x.personOf(0, 4), 0);
    }

    private static void bar() {
        String says = "bar: A BAR comes, or goes: 1; 0 if it was so";
        RidePools x = Towns.alike(1, 1, 1);
        due(says, "goes, was not there", x.bar(0, 1, false), 0);
        due(says, "comes", x.bar(0, 1, true), 1);
        due(says, "comes, was there", x.bar(0, 1, true), 0);
        due(says, "comes, was there the other way round", x.bar(1, 0, true), 0);
        due(says, "another one is not there", x.bar(0, 2, false), 0);
        due(says, "goes, the other way round", x.bar(1, 0, false), 1);
        due(says, "goes, was gone", x.bar(0, 1, false), 0);
    }

    private static void barNobody() {
        String says = "bar: -1 (also with itself)";
        RidePools x = new RidePools();
        for (int p = 0; p < 8; p++) x.person(0, 0, 1, 0, 1440, 0, 1);
        int[] nobody = {-1, 8, 9, 32, LOW, HIGH};
        for (int p : nobody) {
            due(says, p + " and another", x.bar(p, 0, true), -1);
            due(says, "another and " + p, x.bar(0, p, false), -1);
        }
        for (int p = 0; p < 8; p++) {
            due(says, p + " with itself", x.bar(p, p, true), -1);
            due(says, p + " with itself", x.bar(p, p, false), -1);
            due(says, "no BARS", x.personOf(p, 9), 0);
        }
        due(says, "the first and the last", x.bar(0, 7, true), 1);
        due(says, "the bit of the last", x.personOf(0, 9), 128);
        due(says, "the bit of the first", x.personOf(7, 9), 1);
        x.person(0, 0, 1, 0, 1440, 0, 1);
        due(says, "8 is there now", x.bar(0, 8, true), 1);
        due(says, "two bits", x.personOf(0, 9), 384);
    }

    private static void away() {
        String says = "away: A PERSON is AWAY, or not: 1; 0 if it was so. -1";
        RidePools x = Towns.alike(1, 1);
        for (int p = 0; p < 2; p++) {
            due(says, "was not", x.away(p, false), 0);
            due(says, "is", x.away(p, true), 1);
            due(says, "here", x.count(1), 1 - p);
            due(says, "was", x.away(p, true), 0);
        }
        for (int p = 0; p < 2; p++) due(says, "is not", x.away(p, false), 1);
        int[] nobody = {-1, 2, LOW, HIGH};
        for (int p : nobody) {
            due(says, "nobody " + p, x.away(p, true), -1);
            due(says, "nobody " + p, x.away(p, false), -1);
        }
        due(says, "here", x.count(1), 2);
    }

    private static void broken() {
        String says = "broken: A car is BROKEN, or not: 1; 0 if it was so. -1. (THE PLAN stays.)";
        RidePools x = Towns.alike(2, 0);
        x.plan();
        for (int p = 0; p < 2; p++) {
            due(says, "was not", x.broken(p, false), 0);
            due(says, "is", x.broken(p, true), 1);
            due(says, "was", x.broken(p, true), 0);
            due(says, "told", x.personOf(p, 8), 1);
            due(says, "SEATS stay", x.personOf(p, 6), p == 0 ? 2 : 0);
        }
        due(says, "the PLAN stays", x.poolOf(1, 0), 3);
        due(says, "its driver stays", x.poolOf(1, 1), 0);
        due(says, "there are none without it", x.cost(3), -9);
        for (int p = 0; p < 2; p++) due(says, "is not", x.broken(p, false), 1);
        int[] nobody = {-1, 2, LOW, HIGH};
        for (int p : nobody) {
            due(says, "nobody " + p, x.broken(p, true), -1);
            due(says, "nobody " + p, x.broken(p, false), -1);
        }
    }

    /** The set's calls; those with a driver have the driver that is given. */
    private static void sets(String says, String side, RidePools x, int set, int driver, int want) {
        due(says, side + ", fits", x.fits(set, driver), want);
        due(says, side + ", why", x.why(set, driver), want);
        for (int what = -1; what <= 1; what++) due(says, side + ", way", x.way(set, driver, what), want);
        due(says, side + ", cost", x.cost(set), want);
        due(says, side + ", driver", x.driver(set), want);
        due(says, side + ", turn", x.turn(set), want);
    }

    private static void fine(String says, String side, RidePools x, int set, int driver) {
        due(says, side + ", fits", x.fits(set, driver), 10);
        due(says, side + ", why", x.why(set, driver), 0);
        due(says, side + ", way", x.way(set, driver, 1), 1440);
        due(says, side + ", cost", x.cost(set), 10);
        due(says, side + ", driver", x.driver(set), Integer.numberOfTrailingZeros(set));
        due(says, side + ", turn", x.turn(set), Integer.numberOfTrailingZeros(set));
    }

    private static void setsOfNobody() {
        String says = "-1 NOBODY: bits of PERSONS that there are not; an empty set";
        sets(says, "nobody is there", new RidePools(), 1, 0, -1);
        sets(says, "nobody is there, empty", new RidePools(), 0, 0, -1);
        RidePools x = Towns.line();
        for (int p = 0; p < 9; p++) {
            x.person(0, 0, 1, 0, 1440, 0, 5);
            fine(says, "the bit of the last of " + (p + 1), x, 1 << p, p);
            sets(says, "the next bit alone", x, 1 << p + 1, p + 1, -1);
            sets(says, "the next bit too", x, 1 << p | 1 << p + 1, p, -1);
        }
        RidePools y = Towns.alike(5, 5, 5);
        sets(says, "empty", y, 0, 0, -1);
        int[] high = {1 << 9, 1 << 16, 1 << 30, LOW};
        for (int bit : high) {
            sets(says, "only a high bit", y, bit, 0, -1);
            sets(says, "a high bit too", y, bit | 1, 0, -1);
        }
        sets(says, "all bits", y, -1, 0, -1);
        sets(says, "all bits but the first", y, -2, 1, -1);
        fine(says, "all that are there", y, 7, 0);
    }

    private static void setsAndDrivers() {
        String says = "fits: -1 (also a driver not in it)";
        RidePools x = Towns.alike(5, 5, 5);
        int[] nobody = {-1, 3, 9, 31, 32, 33, 64, LOW, HIGH};
        for (int driver : nobody) {
            due(says, "fits, driver " + driver, x.fits(7, driver), -1);
            due(says, "why, driver " + driver, x.why(7, driver), -1);
            due(says, "way, driver " + driver, x.way(7, driver, 0), -1);
        }
        for (int set = 1; set < 8; set++) {
            for (int driver = 0; driver < 3; driver++) {
                boolean in = (set >> driver & 1) != 0;
                due(says, "fits, " + driver + " in " + set, x.fits(set, driver), in ? 10 : -1);
                due(says, "why, " + driver + " in " + set, x.why(set, driver), in ? 0 : -1);
                due(says, "way, " + driver + " in " + set, x.way(set, driver, 2), in ? driver : -1);
            }
        }
    }

    private static void setsOfFive() {
        String says = "fits, cost: -1 (.. more than 4)";
        RidePools x = Towns.alike(5, 5, 5, 5, 5, 5, 5, 5, 5);
        int[] fives = {31, 1 << 8 | 15, 0x1F0, 63, 511, 0x155};
        for (int set : fives) sets(says, "five and more " + set, x, set, Integer.numberOfTrailingZeros(set), -1);
        int[] fours = {15, 1 << 8 | 7, 0x1E0, 0x154};
        for (int set : fours) fine(says, "four " + set, x, set, Integer.numberOfTrailingZeros(set));
    }

    private static void setsAway() {
        String says = "fits: -1; -3 one is AWAY";
        RidePools x = Towns.alike(5, 5, 5, 5, 5);
        x.away(1, true);
        sets(says, "who drives", x, 2, 1, -3);
        sets(says, "who rides", x, 3, 0, -3);
        sets(says, "of four", x, 15, 3, -3);
        fine(says, "without that one", x, 29, 0);
        sets(says, "more than 4 ahead of AWAY", x, 31, 0, -1);
        sets(says, "bits of nobody ahead of AWAY", x, 34, 1, -1);
        due(says, "a driver not in it ahead of AWAY", x.fits(3, 2), -1);
        due(says, "a driver not in it ahead of AWAY", x.why(3, 2), -1);
        due(says, "a driver not in it ahead of AWAY", x.way(3, 2, 0), -1);
        due(says, "an AWAY driver not in it", x.fits(1, 1), -1);
        x.broken(0, true);
        x.bar(0, 1, true);
        sets(says, "AWAY ahead of not FITTING", x, 3, 0, -3);
        x.broken(0, false);
        x.bar(0, 1, false);
        x.away(1, false);
        fine(says, "back", x, 15, 0);
    }

    private static void fitsAndWhy() {
        String says = "fits: The MINUTES of a set's WAY with a driver; -9 if it doesn't FIT";
        RidePools x = Towns.alike(1, 0, 3);
        due(says, "it FITS", x.fits(4, 2), 10);
        due(says, "no car", x.fits(2, 1), -9);
        due(says, "SEATS", x.fits(3, 0), -9);
        x.bar(0, 2, true);
        due(says, "a BAR", x.fits(5, 2), -9);
        x.times(2, 1431, 1440);
        due(says, "no WAY", x.fits(4, 2), -9);
        x.minutes(0, 1, 9);
        due(says, "a WAY", x.fits(4, 2), 9);
        x.minutes(0, 1, 0);
        due(says, "0 MINUTES is a WAY", x.fits(4, 2), 0);
        due(says, "no REFUSALS", x.count(11) + x.count(12) + x.count(13), 0);
    }

    private static void why() {
        String says = "why: 0 it FITS; 1 no car; 2 SEATS; 3 a BAR; 4 no WAY";
        RidePools x = Towns.alike(3, 3);
        due(says, "it FITS", x.why(3, 0), 0);
        x.times(0, 1431, 1440);
        due(says, "no WAY", x.why(3, 0), 4);
        x.bar(0, 1, true);
        due(says, "a BAR ahead of no WAY", x.why(3, 0), 3);
        RidePools y = Towns.alike(1, 3);
        due(says, "SEATS", y.why(3, 0), 2);
        y.bar(0, 1, true);
        due(says, "SEATS ahead of a BAR", y.why(3, 0), 2);
        y.times(0, 1431, 1440);
        due(says, "SEATS ahead of no WAY", y.why(3, 0), 2);
        due(says, "alone there is a seat, but no WAY", y.why(1, 0), 4);
        y.broken(0, true);
        due(says, "no car ahead of all", y.why(3, 0), 1);
        RidePools z = Towns.alike(0, 3);
        due(says, "no car ahead of SEATS", z.why(3, 0), 1);
        due(says, "the other has one", z.why(3, 1), 0);
    }

    private static void way() {
        String says = "way: 0 its begin, 1 its end, 2 + i the i-th PERSON picked up, 12 + i the i-th that comes to WORK (i from 0, fewer than in the set); -9 .. there is none such";
        RidePools x = Towns.alike(4, 4, 4, 4);
        for (int size = 1; size <= 4; size++) {
            int set = (1 << size) - 1;
            for (int what = -3; what <= 30; what++) {
                int want = what == 0 ? 1430 : what == 1 ? 1440 : -9;
                if (what >= 2 && what - 2 < size) want = what - 2;
                if (what >= 12 && what - 12 < size) want = what - 12;
                due(says, "of " + size + ", what " + what, x.way(set, 0, what), want);
            }
        }
        int[] far = {LOW, LOW + 1, LOW + 12, HIGH, HIGH - 1, 256, 258, 1 << 16};
        for (int what : far) due(says, "what " + what, x.way(15, 0, what), -9);
        due(says, "no REFUSALS", x.count(11) + x.count(12), 0);
        x.broken(0, true);
        for (int what = -1; what <= 16; what++) due(says, "it doesn't FIT, what " + what, x.way(15, 0, what), -9);
        due(says, "no REFUSALS", x.count(11) + x.count(12), 0);
        for (int what = -1; what <= 16; what++) due(says, "refused ahead of what " + what, x.way(1, 1, what), -1);
        due(says, "REFUSALS -1", x.count(11), 18);
    }

    private static void costDriverTurn() {
        String says = "cost: -9 none; driver: -9; turn: -9 it FITS none";
        RidePools x = Towns.alike(0, 2, 2);
        due(says, "cost", x.cost(1), -9);
        due(says, "driver", x.driver(1), -9);
        due(says, "turn", x.turn(1), -9);
        due(says, "it FITS one", x.cost(3), 10);
        due(says, "it FITS one", x.driver(3), 1);
        due(says, "it FITS one", x.turn(3), 1);
        due(says, "SEATS for two", x.cost(7), -9);
        due(says, "SEATS for two", x.driver(7), -9);
        due(says, "SEATS for two", x.turn(7), -9);
        due(says, "no REFUSALS", x.count(11) + x.count(13), 0);
    }

    private static void plan() {
        String says = "plan: THE BEST becomes THE PLAN: how many POOLS";
        RidePools x = Towns.line();
        due(says, "nobody", x.plan(), 0);
        due(says, "a PLAN all the same", x.count(3), 1);
        for (int p = 0; p < 9; p++) {
            x.person(0, 0, 1, 0, 1440, 0, 5);
            due(says, p + 1 + " PERSONS", x.plan(), p / 4 + 1);
        }
        for (int p = 0; p < 9; p++) x.broken(p, true);
        due(says, "no cars", x.plan(), 0);
        due(says, "all LEFT", x.planOf(1), 9);
        for (int p = 0; p < 9; p++) x.away(p, true);
        due(says, "all AWAY", x.plan(), 0);
        due(says, "none LEFT", x.planOf(1), 0);
        RidePools y = new RidePools();
        for (int p = 0; p < 9; p++) y.person(0, p, p == 8 ? 9 : p + 1, 0, 300, 0, 1);
        due(says, "nine POOLS", y.plan(), 9);
        due(says, "of 300 MINUTES each", y.planOf(2), 2700);
        due(says, "as it is", y.same(), 1);
    }

    private static void planOf() {
        String says = "planOf: 0 POOLS, 1 LEFT, 2 MINUTES together, 3 PERSONS in POOLS. -3; -2";
        RidePools x = Towns.alike(2, 0, 0, 1);
        int[] whats = {-1, 0, 3, 4, LOW, HIGH};
        for (int what : whats) due(says, "no PLAN, what " + what, x.planOf(what), -3);
        x.plan();
        int[] want = {2, 1, 20, 3};
        for (int what = 0; what < 4; what++) due(says, "what " + what, x.planOf(what), want[what]);
        int[] others = {-1, 4, LOW, HIGH};
        for (int what : others) due(says, "what " + what, x.planOf(what), -2);
        RidePools y = new RidePools();
        y.plan();
        for (int what = 0; what < 4; what++) due(says, "nobody, what " + what, y.planOf(what), 0);
    }

    private static void poolOf() {
        String says = "poolOf: -3; -1; -2";
        RidePools x = Towns.alike(2, 0);
        due(says, "no PLAN", x.poolOf(0, 0), -3);
        due(says, "no PLAN ahead of nobody", x.poolOf(2, 0), -3);
        due(says, "no PLAN ahead of other", x.poolOf(0, 4), -3);
        x.plan();
        int[] nobody = {-1, 2, 9, LOW, HIGH};
        for (int p : nobody) {
            due(says, "nobody " + p, x.poolOf(p, 0), -1);
            due(says, "nobody ahead of other", x.poolOf(p, 4), -1);
            due(says, "nobody ahead of other", x.poolOf(p, -1), -1);
        }
        int[] others = {-1, 4, LOW, HIGH};
        for (int what : others) {
            due(says, "other " + what, x.poolOf(0, what), -2);
            due(says, "other " + what, x.poolOf(1, what), -2);
        }
        int[] want = {3, 0, 1430, 1440};
        for (int p = 0; p < 2; p++) {
            for (int what = 0; what < 4; what++) due(says, "of " + p + " " + what, x.poolOf(p, what), want[what]);
        }
    }

    private static void poolOfWithout() {
        String says = "poolOf: 0 its POOL as bits (0 LEFT, or it wasn't there), 1 .. 3 (-9 each without)";
        RidePools x = Towns.alike(1, 0, 1);
        x.away(2, true);
        x.plan();
        x.away(2, false);
        x.person(0, 0, 1, 0, 1440, 0, 1);
        String[] who = {"in a POOL", "LEFT", "was AWAY", "came later"};
        for (int p = 1; p < 4; p++) {
            due(says, who[p], x.poolOf(p, 0), 0);
            for (int what = 1; what < 4; what++) due(says, who[p] + ", " + what, x.poolOf(p, what), -9);
            due(says, who[p] + ", other", x.poolOf(p, 4), -2);
        }
        int[] want = {1, 0, 1430, 1440};
        for (int what = 0; what < 4; what++) due(says, who[0] + ", " + what, x.poolOf(0, what), want[what]);
        due(says, "one LEFT", x.planOf(1), 1);
        RidePools y = new RidePools();
        y.minutes(0, 1, 0);
        y.person(0, 0, 1, 0, 0, 0, 1);
        y.plan();
        int[] zero = {1, 0, 0, 0};
        for (int what = 0; what < 4; what++) due(says, "picked up at minute 0, " + what, y.poolOf(0, what), zero[what]);
        RidePools z = Towns.alike(1, 1, 1, 1, 1, 1, 1, 1, 1);
        z.plan();
        due(says, "the highest bit", z.poolOf(8, 0), 256);
        due(says, "who drives it", z.poolOf(8, 1), 8);
    }

    private static void same() {
        String says = "same: Whether THE PLAN is as THE BEST is now (LEFT, MINUTES, POOLS): 1, 0. -3";
        RidePools x = Towns.alike(2, 2, 0, 0);
        due(says, "no PLAN", x.same(), -3);
        x.plan();
        due(says, "just made", x.same(), 1);
        x.broken(1, true);
        due(says, "LEFT differs, and all else", x.same(), 0);
        x.broken(1, false);
        x.minutes(0, 1, 11);
        due(says, "MINUTES differ", x.same(), 0);
        x.minutes(0, 1, 10);
        due(says, "as it was", x.same(), 1);
        x.bar(0, 2, true);
        due(says, "others in the POOLS, the same numbers", x.same(), 1);
        x.person(0, 0, 1, 0, 1440, 0, 0);
        due(says, "LEFT alone differs", x.same(), 0);
        RidePools y = Towns.roundabout(10);
        y.plan();
        due(says, "one POOL of 20", y.same(), 1);
        y.bar(0, 1, true);
        due(says, "two POOLS of 20: POOLS alone differ", y.same(), 0);
        RidePools z = new RidePools();
        z.plan();
        due(says, "nobody", z.same(), 1);
        z.person(0, 0, 1, 0, 1440, 0, 1);
        due(says, "somebody", z.same(), 0);
        due(says, "it makes no PLAN", z.planOf(0), 0);
        RidePools w = Towns.twoDrivers();
        w.plan();
        w.even();
        due(says, "EVEN took a longer WAY", w.same(), 0);
        w.mornings(1);
        due(says, "MORNINGS do not count", w.same(), 0);
        w.minutes(0, 1, 300);
        w.minutes(1, 0, 20);
        due(says, "THE BEST takes two POOLS of 20 now", w.same(), 0);
    }

    private static void even() {
        String says = "even: EVEN: how many drivers changed. -3";
        RidePools x = Towns.alike(4, 4, 4, 4, 4, 4, 4, 4, 4);
        due(says, "no PLAN", x.even(), -3);
        x.plan();
        due(says, "none", x.even(), 0);
        x.mornings(1);
        due(says, "two of three, one is alone", x.even(), 2);
        due(says, "not twice", x.even(), 0);
        RidePools y = new RidePools();
        y.plan();
        due(says, "no POOLS", y.even(), 0);
    }

    private static void mornings() {
        String says = "mornings: n MORNINGS by THE PLAN: n. -3; -4 below 1; -6 above 1000";
        RidePools x = Towns.alike(2, 0);
        int[] numbers = {LOW, 0, 1, 1000, 1001, HIGH};
        for (int n : numbers) due(says, "no PLAN, " + n, x.mornings(n), -3);
        x.plan();
        int[] below = {0, -1, LOW};
        for (int n : below) due(says, "below, " + n, x.mornings(n), -4);
        int[] above = {1001, HIGH};
        for (int n : above) due(says, "above, " + n, x.mornings(n), -6);
        due(says, "none so far", x.count(4), 0);
        due(says, "no POINTS", x.personOf(0, 11), 1000000000);
        due(says, "the fewest", x.mornings(1), 1);
        due(says, "one", x.personOf(0, 11), 1000000001);
        due(says, "the most", x.mornings(1000), 1000);
        due(says, "1001", x.personOf(0, 11), 1000001001);
        due(says, "-1001", x.personOf(1, 11), 999998999);
        due(says, "so far", x.count(4), 1001);
        RidePools y = new RidePools();
        y.plan();
        due(says, "by a PLAN of nobody", y.mornings(3), 3);
        due(says, "so far", y.count(4), 3);
    }

    private static void fail() {
        String says = "fail: -3; -1";
        RidePools x = Towns.alike(1, 1);
        int[] all = {0, 1, 2, -1, LOW, HIGH};
        for (int p : all) due(says, "no PLAN, " + p, x.fail(p), -3);
        due(says, "not BROKEN", x.personOf(0, 8), 0);
        x.plan();
        int[] nobody = {-1, 2, 9, LOW, HIGH};
        for (int p : nobody) due(says, "nobody " + p, x.fail(p), -1);
        due(says, "the PLAN stays", x.planOf(0), 1 + 1);
        due(says, "the last", x.fail(1), 1);
        due(says, "the first", x.fail(0), 1);
        due(says, "BROKEN", x.personOf(0, 8) + x.personOf(1, 8), 2);
    }

    private static void failAnswers() {
        String says = "fail: how many of its POOL are LEFT (0 if it drove none)";
        for (int size = 1; size <= 4; size++) {
            RidePools x = Towns.line();
            for (int p = 0; p < size; p++) x.person(0, 0, 1, 0, 1440, 0, p == 0 ? 4 : 0);
            x.plan();
            for (int p = 1; p < size; p++) due(says, p + " drove none", x.fail(p), 0);
            due(says, "all " + size, x.fail(0), size);
            due(says, "LEFT", x.planOf(1), size);
            due(says, "drives none now", x.fail(0), 0);
        }
        RidePools y = Towns.alike(1, 0, 1);
        y.plan();
        due(says, "one is LEFT", y.planOf(1), 1);
        due(says, "those who were LEFT do not count", y.fail(0), 1);
        due(says, "LEFT together", y.planOf(1), 2);
    }

    private static void few() {
        String says = "few: The fewest POOLS into which all that are not AWAY can be put with none LEFT, MINUTES not looked at; -9 there is no way";
        RidePools x = Towns.line();
        due(says, "nobody", x.few(), 0);
        for (int p = 0; p < 9; p++) {
            x.person(0, 0, 1, 0, 1440, 0, 4);
            due(says, p + 1 + " PERSONS", x.few(), p / 4 + 1);
        }
        RidePools y = Towns.roundabout(300);
        due(says, "310 MINUTES", y.few(), 1);
        due(says, "the PLAN looks at MINUTES", y.plan(), 2);
        y.bar(0, 1, true);
        due(says, "a BAR", y.few(), 2);
        y.broken(0, true);
        due(says, "one would be LEFT", y.few(), -9);
        y.away(0, true);
        due(says, "that one is AWAY", y.few(), 1);
        y.away(1, true);
        due(says, "all are AWAY", y.few(), 0);
        due(says, "no REFUSALS", y.count(11) + y.count(13), 0);
        RidePools z = Towns.alike(0);
        due(says, "one without a car", z.few(), -9);
        RidePools w = new RidePools();
        for (int p = 0; p < 9; p++) w.person(0, p, p == 8 ? 9 : p + 1, 0, 300, 0, 1);
        due(says, "nine apart", w.few(), 9);
    }

    private static void personOf() {
        String says = "personOf: -1; -2";
        RidePools x = Towns.alike(1, 1);
        int[] nobody = {-1, 2, 9, LOW, HIGH};
        for (int p : nobody) {
            due(says, "nobody " + p, x.personOf(p, 0), -1);
            due(says, "nobody ahead of other", x.personOf(p, 12), -1);
            due(says, "nobody ahead of other", x.personOf(p, -1), -1);
        }
        int[] others = {-1, 12, LOW, HIGH};
        for (int p = 0; p < 2; p++) {
            for (int what : others) due(says, "other " + what, x.personOf(p, what), -2);
            due(says, "the first", x.personOf(p, 0), 0);
            due(says, "the last", x.personOf(p, 11), 1000000000);
        }
    }

    private static void personOfValues() {
        String says = "personOf: 0 KIND .. 11 POINTS and 1000000000";
        RidePools x = Towns.line();
        x.person(1, 2, 5, 100, 200, 30, 4);
        x.person(0, 5, 2, 0, 1440, 300, 5);
        int[] want = {1, 2, 5, 100, 200, 30, 4, 0, 0, 0, 30, 1000000000};
        for (int what = 0; what < 12; what++) due(says, "of 0 " + what, x.personOf(0, what), want[what]);
        x.away(0, true);
        due(says, "1 if AWAY", x.personOf(0, 7), 1);
        due(says, "the other is not", x.personOf(1, 7), 0);
        x.broken(0, true);
        due(says, "1 if BROKEN", x.personOf(0, 8), 1);
        due(says, "the other is not", x.personOf(1, 8), 0);
        due(says, "LEAST back", x.personOf(1, 10), 300);
        x.minutes(5, 2, 0);
        due(says, "LEAST 0", x.personOf(1, 10), 0);
        x.bar(0, 1, true);
        due(says, "BARS as bits", x.personOf(0, 9), 2);
        due(says, "BARS as bits", x.personOf(1, 9), 1);
        RidePools y = Towns.alike(1, 1, 1, 1, 1, 1, 1, 1, 1);
        for (int p = 1; p < 9; p++) y.bar(p, 0, true);
        due(says, "BARS with all others", y.personOf(0, 9), 510);
        due(says, "a BAR with the first", y.personOf(8, 9), 1);
    }

    private static void count() {
        String says = "count: -9 for another what";
        RidePools x = new RidePools();
        int[] others = {-1, 5, 6, 7, 8, 9, 10, 17, 18, LOW, LOW + 10, LOW + 11, HIGH, 256 + 11};
        for (int what : others) due(says, "what " + what, x.count(what), -9);
        int[] some = {0, 1, 2, 3, 4, 11, 12, 13, 14, 15, 16};
        for (int what : some) due(says, "what " + what + ", and -9 was no REFUSAL", x.count(what), 0);
    }

    private static void countValues() {
        String says = "count: 0 PERSONS, 1 that are not AWAY, 2 that have a car (not BROKEN), 3 1 if there is a PLAN, 4 MORNINGS so far";
        RidePools x = Towns.alike(1, 0, 5);
        int[][] want = {{3, 3, 2, 0, 0}, {3, 2, 2, 0, 0}, {3, 2, 1, 0, 0}, {3, 2, 1, 1, 0}, {3, 2, 1, 1, 1000}, {3, 2, 1, 1, 1001}};
        for (int step = 0; step < 6; step++) {
            if (step == 1) x.away(0, true);
            if (step == 2) x.broken(2, true);
            if (step == 3) x.plan();
            if (step == 4) x.mornings(1000);
            if (step == 5) x.mornings(1);
            for (int what = 0; what < 5; what++) due(says, "step " + step + ", what " + what, x.count(what), want[step][what]);
        }
        x.broken(1, true);
        due(says, "no car to be BROKEN", x.count(2), 1);
        x.broken(1, false);
        due(says, "and none to be mended", x.count(2), 1);
        x.plan();
        due(says, "one PLAN", x.count(3), 1);
        for (int p = 3; p < 9; p++) x.person(0, 0, 1, 0, 1440, 0, 1);
        due(says, "nine", x.count(0), 9);
        due(says, "eight here", x.count(1), 8);
        due(says, "seven cars", x.count(2), 7);
    }

    private static void often(int n, IntSupplier call) {
        for (int i = 0; i < n; i++) call.getAsInt();
    }

    private static void countRefusals() {
        String says = "count: 11 .. 16 REFUSALS -1 .. -6";
        RidePools x = Towns.alike(1);
        x.plan();
        x.person(0, 0, 1, 0, 1440, 0, 1);
        x.away(1, true);
        often(6, () -> x.least(0, 10));
        often(5, () -> x.planOf(4));
        often(4, () -> x.cost(2));
        often(3, () -> x.mornings(0));
        often(2, () -> x.mornings(1001));
        int[] want = {6, 5, 4, 3, 0, 2};
        for (int i = 0; i < 6; i++) due(says, "-" + (i + 1), x.count(11 + i), want[i]);
    }
}
