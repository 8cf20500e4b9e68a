import java.util.ArrayList;
import java.util.Arrays;
import java.util.List;
import java.util.function.Function;
import java.util.function.Supplier;
import java.util.function.ToIntFunction;

/**
 * "REFUSALS (.. nothing changes but how many there were)": each call that is refused, for each reason, is made on one
 * of two objects that are alike; whatever is asked of both afterwards, they answer alike but for that count.
 * The same is looked at for calls that only tell something.
 */
public final class RefusedCallsTest {
    private static final int MOST_CALLS = 512;
    private static final Answers answers = new Answers("RefusedCallsTest");

    /** How an object comes to be in which a call is made, in at most so many calls. */
    private record Scene(String name, int calls, Supplier<RidePools> make) {
    }

    private record Call(String name, int answer, ToIntFunction<RidePools> make) {
    }

    /** Asks one thing after the other, and keeps the answers. */
    private record View(String name, Function<RidePools, List<Integer>> look) {
    }

    private static final Scene EMPTY = new Scene("nobody", 0, RidePools::new);
    private static final Scene UNPLANNED = new Scene("no plan", 40, RefusedCallsTest::village);
    private static final Scene PLANNED = new Scene("a plan", 80, RefusedCallsTest::plannedVillage);
    private static final Scene FULL = new Scene("nine", 60, RefusedCallsTest::fullVillage);

    private static final List<View> VIEWS = List.of(
        new View("personOf", RefusedCallsTest::persons),
        new View("least", RefusedCallsTest::least),
        new View("minutes", RefusedCallsTest::minutes),
        new View("cost and driver", RefusedCallsTest::costs),
        new View("turn", RefusedCallsTest::turns),
        new View("why and fits", RefusedCallsTest::rides),
        new View("way", RefusedCallsTest::ways),
        new View("the plan", RefusedCallsTest::planAsItIs),
        new View("mornings and even", RefusedCallsTest::morningsAndEven),
        new View("fail", RefusedCallsTest::fails),
        new View("plan anew", RefusedCallsTest::planAnew),
        new View("all come", RefusedCallsTest::newcomers));

    public static void main(String[] args) {
        for (Scene scene : List.of(EMPTY, UNPLANNED, PLANNED, FULL)) {
            for (Call call : refusedEverywhere()) look(scene, call);
            for (Call call : tellingEverywhere()) look(scene, call);
        }
        for (Scene scene : List.of(EMPTY, UNPLANNED)) {
            for (Call call : refusedWithoutPlan()) look(scene, call);
        }
        for (Scene scene : List.of(PLANNED, FULL)) {
            for (Call call : refusedWithPlan()) look(scene, call);
        }
        for (Scene scene : List.of(UNPLANNED, PLANNED, FULL)) {
            for (Call call : refusedWithPersons()) look(scene, call);
            for (Call call : tellingOfPersons()) look(scene, call);
        }
        for (Call call : tellingOfThePlan()) {
            look(PLANNED, call);
            look(FULL, call);
        }
        look(FULL, new Call("person, no room", -6, x -> x.person(0, 0, 1, 0, 1440, 0, 5)));
        answers.close();
    }

    /** Six neighbours, of whom one is AWAY, one has a BROKEN car, one has none, one is a CHAIR, and two have a BAR. */
    private static RidePools village() {
        RidePools x = new RidePools();
        int[][] roads = {{0, 1, 7}, {1, 0, 9}, {1, 2, 8}, {0, 2, 20}, {2, 3, 11}, {3, 4, 6}, {2, 4, 13}, {4, 3, 5}, {3, 0, 40}};
        for (int[] road : roads) x.minutes(road[0], road[1], road[2]);
        x.person(0, 0, 3, 400, 520, 30, 4);
        x.person(0, 1, 4, 410, 500, 20, 3);
        x.person(1, 0, 4, 380, 490, 40, 5);
        x.person(0, 2, 3, 420, 540, 10, 0);
        x.person(0, 1, 3, 430, 560, 15, 2);
        x.person(0, 0, 2, 300, 600, 60, 4);
        x.bar(0, 1, true);
        x.broken(4, true);
        x.away(5, true);
        return x;
    }

    /** The village after some mornings, with a PLAN that is THE BEST no more. */
    private static RidePools plannedVillage() {
        RidePools x = village();
        x.away(5, false);
        x.plan();
        x.mornings(3);
        x.even();
        x.mornings(2);
        x.away(5, true);
        x.minutes(0, 1, 6);
        x.bar(2, 3, true);
        x.broken(4, false);
        return x;
    }

    private static RidePools fullVillage() {
        RidePools x = village();
        x.person(0, 2, 4, 400, 520, 25, 4);
        x.person(1, 0, 3, 400, 600, 35, 3);
        x.person(0, 1, 2, 440, 480, 5, 1);
        x.plan();
        x.mornings(1);
        return x;
    }

    private static List<Call> refusedEverywhere() {
        return List.of(
            new Call("minutes, no stop", -1, x -> x.minutes(10, 0, 1)),
            new Call("minutes, no stop", -1, x -> x.minutes(0, -1, 1)),
            new Call("minutes, to itself", -1, x -> x.minutes(2, 2, 1)),
            new Call("minutes, below", -4, x -> x.minutes(0, 1, -1)),
            new Call("minutes, above", -6, x -> x.minutes(0, 1, 301)),
            new Call("least", -1, x -> x.least(0, 10)),
            new Call("person, no stop", -1, x -> x.person(0, 10, 0, 0, 1440, 0, 5)),
            new Call("person, one stop", -1, x -> x.person(0, 1, 1, 0, 1440, 0, 5)),
            new Call("person, kind", -2, x -> x.person(2, 0, 1, 0, 1440, 0, 5)),
            new Call("person, early below", -4, x -> x.person(0, 0, 1, -1, 1440, 0, 5)),
            new Call("person, late below", -4, x -> x.person(0, 0, 1, 0, -1, 0, 5)),
            new Call("person, detour below", -4, x -> x.person(0, 0, 1, 0, 1440, -1, 5)),
            new Call("person, seats below", -4, x -> x.person(0, 0, 1, 0, 1440, 0, -1)),
            new Call("person, early above", -6, x -> x.person(0, 0, 1, 1441, 1440, 0, 5)),
            new Call("person, late above", -6, x -> x.person(0, 0, 1, 0, 1441, 0, 5)),
            new Call("person, detour above", -6, x -> x.person(0, 0, 1, 0, 1440, 301, 5)),
            new Call("person, seats above", -6, x -> x.person(0, 0, 1, 0, 1440, 0, 6)),
            new Call("times, nobody", -1, x -> x.times(9, 0, 1440)),
            new Call("bar, nobody", -1, x -> x.bar(0, 9, true)),
            new Call("bar, itself", -1, x -> x.bar(0, 0, true)),
            new Call("away, nobody", -1, x -> x.away(-1, true)),
            new Call("broken, nobody", -1, x -> x.broken(9, true)),
            new Call("fits, empty", -1, x -> x.fits(0, 0)),
            new Call("fits, nobody's bit", -1, x -> x.fits(513, 0)),
            new Call("why, empty", -1, x -> x.why(0, 0)),
            new Call("way, empty", -1, x -> x.way(0, 0, 0)),
            new Call("cost, empty", -1, x -> x.cost(0)),
            new Call("driver, nobody's bit", -1, x -> x.driver(512)),
            new Call("turn, all bits", -1, x -> x.turn(-1)),
            new Call("personOf, nobody", -1, x -> x.personOf(9, 0)));
    }

    private static List<Call> refusedWithoutPlan() {
        return List.of(
            new Call("planOf, no plan", -3, x -> x.planOf(0)),
            new Call("poolOf, no plan", -3, x -> x.poolOf(0, 0)),
            new Call("same, no plan", -3, x -> x.same()),
            new Call("even, no plan", -3, x -> x.even()),
            new Call("mornings, no plan", -3, x -> x.mornings(5)),
            new Call("fail, no plan", -3, x -> x.fail(0)));
    }

    private static List<Call> refusedWithPlan() {
        return List.of(
            new Call("planOf, other", -2, x -> x.planOf(4)),
            new Call("poolOf, nobody", -1, x -> x.poolOf(9, 0)),
            new Call("poolOf, other", -2, x -> x.poolOf(0, 4)),
            new Call("mornings, below", -4, x -> x.mornings(0)),
            new Call("mornings, far below", -4, x -> x.mornings(-1000)),
            new Call("mornings, above", -6, x -> x.mornings(1001)),
            new Call("fail, nobody", -1, x -> x.fail(9)),
            new Call("fail, nobody", -1, x -> x.fail(-1)));
    }

    /** Where 0 to 5 are there, and 5 is AWAY. */
    private static List<Call> refusedWithPersons() {
        return List.of(
            new Call("times, early below", -4, x -> x.times(0, -1, 500)),
            new Call("times, late below", -4, x -> x.times(0, 500, -1)),
            new Call("times, early above", -6, x -> x.times(0, 1441, 500)),
            new Call("times, late above", -6, x -> x.times(0, 0, 1441)),
            new Call("fits, driver not in it", -1, x -> x.fits(3, 2)),
            new Call("fits, five", -1, x -> x.fits(31, 0)),
            new Call("fits, away", -3, x -> x.fits(33, 0)),
            new Call("why, driver not in it", -1, x -> x.why(3, 2)),
            new Call("why, five", -1, x -> x.why(31, 0)),
            new Call("why, away", -3, x -> x.why(33, 5)),
            new Call("way, driver not in it", -1, x -> x.way(3, 2, 0)),
            new Call("way, five", -1, x -> x.way(31, 0, 0)),
            new Call("way, away", -3, x -> x.way(33, 0, 0)),
            new Call("cost, five", -1, x -> x.cost(31)),
            new Call("cost, away", -3, x -> x.cost(33)),
            new Call("driver, five", -1, x -> x.driver(31)),
            new Call("driver, away", -3, x -> x.driver(32)),
            new Call("turn, five", -1, x -> x.turn(31)),
            new Call("turn, away", -3, x -> x.turn(34)),
            new Call("personOf, other", -2, x -> x.personOf(0, 12)));
    }

    /** For calls that answer one thing here and another there. */
    private static int whatever(int answer) {
        return 0;
    }

    private static List<Call> tellingEverywhere() {
        return List.of(
            new Call("least", 0, x -> x.least(3, 3)),
            new Call("few", 0, x -> whatever(x.few())),
            new Call("count", -9, x -> x.count(5)),
            new Call("count", -9, x -> x.count(17)));
    }

    private static List<Call> tellingOfPersons() {
        return List.of(
            new Call("times as they are", 1, x -> x.times(3, 420, 540)),
            new Call("bar as it is", 0, x -> x.bar(1, 0, true)),
            new Call("away as it is", 0, x -> x.away(5, true)),
            new Call("broken as it is", 0, x -> x.broken(0, false)),
            new Call("fits", 21, x -> x.fits(2, 1)),
            new Call("fits not", -9, x -> x.fits(3, 1)),
            new Call("why", 3, x -> x.why(3, 1)),
            new Call("way", 1, x -> x.way(2, 1, 2)),
            new Call("way, none such", -9, x -> x.way(2, 1, 3)),
            new Call("cost", 21, x -> x.cost(2)),
            new Call("cost, none", -9, x -> x.cost(8)),
            new Call("driver", 1, x -> x.driver(2)),
            new Call("turn", 1, x -> x.turn(2)),
            new Call("personOf", 4, x -> x.personOf(0, 6)));
    }

    private static List<Call> tellingOfThePlan() {
        return List.of(
            new Call("planOf", 0, x -> whatever(x.planOf(0))),
            new Call("poolOf", 0, x -> whatever(x.poolOf(0, 0))),
            new Call("same", 0, x -> whatever(x.same())));
    }

    private static void look(Scene scene, Call call) {
        String where = scene.name + ", " + call.name;
        for (View view : VIEWS) {
            RidePools left = scene.make.get();
            RidePools right = scene.make.get();
            for (int i = 0; i < 2; i++) answers.due(where, "answers", call.make.applyAsInt(right), call.answer);
            List<Integer> want = view.look.apply(left);
            List<Integer> got = view.look.apply(right);
            answers.due(where, view.name + " has other answers", Arrays.mismatch(ints(got), ints(want)), -1);
            answers.due("at most 512 calls", view.name, scene.calls + 2 + got.size() <= MOST_CALLS ? 1 : 0, 1);
        }
        counts(where, scene, call);
    }

    private static int[] ints(List<Integer> list) {
        return list.stream().mapToInt(Integer::intValue).toArray();
    }

    /** All that count() tells is as before, but for the REFUSALS of that number. */
    private static void counts(String where, Scene scene, Call call) {
        RidePools left = scene.make.get();
        RidePools right = scene.make.get();
        for (int i = 0; i < 2; i++) call.make.applyAsInt(right);
        for (int what = 0; what <= 16; what++) {
            boolean itsOwn = call.answer < 0 && what == 10 - call.answer && call.answer >= -6;
            answers.due(where, "count " + what, right.count(what), left.count(what) + (itsOwn ? 2 : 0));
        }
    }

    private static List<Integer> persons(RidePools x) {
        List<Integer> all = new ArrayList<>();
        for (int p = 0; p < 9; p++) {
            for (int what = 0; what < 12; what++) all.add(x.personOf(p, what));
        }
        return all;
    }

    private static List<Integer> least(RidePools x) {
        List<Integer> all = new ArrayList<>();
        for (int from = 0; from < 10; from++) {
            for (int to = 0; to < 10; to++) all.add(x.least(from, to));
        }
        return all;
    }

    private static List<Integer> minutes(RidePools x) {
        List<Integer> all = new ArrayList<>();
        for (int from = 0; from < 10; from++) {
            for (int to = 0; to < 10; to++) all.add(x.minutes(from, to, 300));
        }
        return all;
    }

    private static List<Integer> costs(RidePools x) {
        List<Integer> all = new ArrayList<>();
        for (int set = 0; set < 64; set++) {
            all.add(x.cost(set));
            all.add(x.driver(set));
        }
        return all;
    }

    private static List<Integer> turns(RidePools x) {
        List<Integer> all = new ArrayList<>();
        for (int set = 0; set < 64; set++) all.add(x.turn(set));
        return all;
    }

    private static List<Integer> rides(RidePools x) {
        List<Integer> all = new ArrayList<>();
        for (int set = 1; set < 32; set++) {
            for (int driver = 0; driver < 5; driver++) {
                all.add(x.why(set, driver));
                all.add(x.fits(set, driver));
            }
        }
        return all;
    }

    private static List<Integer> ways(RidePools x) {
        List<Integer> all = new ArrayList<>();
        int[][] some = {{1, 0}, {5, 0}, {5, 2}, {13, 0}, {9, 0}, {10, 1}, {20, 2}, {16, 4}, {29, 0}, {22, 2}};
        for (int[] ride : some) {
            for (int what = 0; what < 16; what++) all.add(x.way(ride[0], ride[1], what));
        }
        return all;
    }

    private static List<Integer> planAsItIs(RidePools x) {
        List<Integer> all = new ArrayList<>();
        all.add(x.same());
        all.add(x.few());
        for (int what = 0; what < 4; what++) {
            all.add(x.planOf(what));
            for (int p = 0; p < 9; p++) all.add(x.poolOf(p, what));
        }
        return all;
    }

    private static List<Integer> morningsAndEven(RidePools x) {
        List<Integer> all = new ArrayList<>();
        for (int i = 0; i < 3; i++) {
            all.add(x.mornings(1 + i));
            all.add(x.even());
            all.addAll(planAsItIs(x));
            for (int p = 0; p < 9; p++) all.add(x.personOf(p, 11));
        }
        return all;
    }

    private static List<Integer> fails(RidePools x) {
        List<Integer> all = new ArrayList<>();
        for (int p = 0; p < 9; p++) {
            all.add(x.fail(p));
            if (p % 2 == 0) all.addAll(planAsItIs(x));
        }
        return all;
    }

    private static List<Integer> planAnew(RidePools x) {
        List<Integer> all = new ArrayList<>();
        all.add(x.plan());
        all.addAll(planAsItIs(x));
        all.add(x.away(5, false));
        all.add(x.plan());
        all.addAll(planAsItIs(x));
        return all;
    }

    private static List<Integer> newcomers(RidePools x) {
        List<Integer> all = new ArrayList<>();
        for (int p = 0; p < 10; p++) all.add(x.person(0, p % 2, 2 + p % 3, 350, 550, 50, p % 5));
        all.addAll(persons(x));
        all.add(x.plan());
        all.addAll(planAsItIs(x));
        return all;
    }
}
