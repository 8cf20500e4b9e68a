/** Roads and neighbours that several tests use. */
final class Towns {
    private Towns() {
    }

    /** STOPS 0, 1, 2, .. 9 in a row, 10 MINUTES from each to the next, 300 back. */
    static RidePools line() {
        RidePools x = new RidePools();
        for (int s = 0; s < 9; s++) x.minutes(s, s + 1, 10);
        return x;
    }

    /** Some who all go from STOP 0 to STOP 1 in 10 MINUTES, whenever; each with so many SEATS. */
    static RidePools alike(int... seats) {
        RidePools x = line();
        for (int s : seats) x.person(0, 0, 1, 0, 1440, 0, s);
        return x;
    }

    /** 0 lives at STOP 0, 1 at 2, 2 at 1, 3 at 0; all work at 3, but 3 at 2. */
    static RidePools neighbours() {
        RidePools x = line();
        x.person(0, 0, 3, 400, 500, 0, 4);
        x.person(0, 2, 3, 400, 500, 0, 4);
        x.person(0, 1, 3, 400, 500, 0, 4);
        x.person(0, 0, 2, 400, 500, 0, 4);
        return x;
    }

    /** 0 and 1 live at STOPS 0 and 1 and work at 2; from 1 to 0 it is near, from 0 to 1 farther. */
    static RidePools twoDrivers() {
        RidePools x = new RidePools();
        x.minutes(0, 1, 20);
        x.minutes(1, 0, 5);
        x.minutes(0, 2, 10);
        x.minutes(1, 2, 10);
        x.person(0, 0, 2, 0, 1440, 300, 2);
        x.person(0, 1, 2, 0, 1440, 300, 2);
        return x;
    }

    /**
     * Four on the line, each 40 MINUTES from its WORK: the one WAY that 0 can drive picks up 0, 1, 2, 3
     * at 0, 10, 20, 30 MINUTES from its begin and brings them at 40, 50, 60, 70.
     */
    static RidePools string() {
        RidePools x = line();
        for (int p = 0; p < 4; p++) x.person(0, p, 4 + p, 0, 1440, 0, 4);
        return x;
    }

    /** Two with cars, who live at STOPS 0 and 1 and work at 2: two POOLS take 20 MINUTES, one of both n + 10. */
    static RidePools roundabout(int n) {
        RidePools x = new RidePools();
        x.minutes(0, 2, 10);
        x.minutes(1, 2, 10);
        x.minutes(0, 1, n);
        x.person(0, 0, 2, 0, 1440, 300, 2);
        x.person(0, 1, 2, 0, 1440, 300, 2);
        return x;
    }

    /** As alike, but with so many who are alone in their own hour each, so that each has a POOL of its own. */
    static RidePools apart(int... seats) {
        RidePools x = line();
        for (int p = 0; p < seats.length; p++) x.person(0, 0, 1, 100 * p, 100 * p + 50, 0, seats[p]);
        return x;
    }
}
