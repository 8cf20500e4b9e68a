import java.lang.reflect.Member;
import java.lang.reflect.Method;
import java.lang.reflect.Modifier;
import java.util.Arrays;
import java.util.List;
import java.util.Random;
import java.util.TreeSet;

/** The rules of LANGUAGE.md that the running class shows: the face, no throw, little room. RulesTest has the others. */
public final class LanguageTest {
    private static final List<String> FACE = List.of(
        "minutes/3", "least/2", "person/7", "times/3", "bar/3", "away/2", "broken/2", "fits/2", "why/2", "way/3",
        "cost/1", "driver/1", "turn/1", "plan/0", "planOf/1", "poolOf/2", "same/0", "even/0", "mornings/1", "fail/1",
        "few/0", "personOf/2", "count/1");
    private static final int CALLS = 512;
    private static int wrong = 0;

    private static void check(String what, boolean good) {
        if (!good) {
            wrong++;
            System.out.println("LanguageTest: " + what);
        }
    }

    public static void main(String[] args) {
        face();
        insides();
        nothingThrown();
        room();
        System.out.println("LanguageTest: " + (wrong == 0 ? "as due" : wrong + " rules broken"));
        if (wrong != 0) System.exit(1);
    }

    private static void face() {
        TreeSet<String> found = new TreeSet<>();
        for (Method method : RidePools.class.getDeclaredMethods()) {
            if (Modifier.isPublic(method.getModifiers())) {
                found.add(method.getName() + "/" + method.getParameterCount());
                check(method.getName() + " answers an int", method.getReturnType() == int.class);
            }
        }
        check("the face is " + found, found.equals(new TreeSet<>(FACE)));
        check("the class is public and final", RidePools.class.getModifiers() == (Modifier.PUBLIC | Modifier.FINAL));
        check("one constructor without parameters", RidePools.class.getDeclaredConstructors().length == 1
            && RidePools.class.getConstructors()[0].getParameterCount() == 0);
    }

    private static void insides() {
        hidden(RidePools.class.getDeclaredFields());
        hidden(RidePools.class.getDeclaredMethods());
        Class<?>[] inside = RidePools.class.getDeclaredClasses();
        check("at most twelve classes", inside.length + 1 <= 12);
        for (Class<?> one : inside) {
            check(one + " is static", Modifier.isStatic(one.getModifiers()));
            long fields = Arrays.stream(one.getDeclaredFields()).filter(f -> !Modifier.isStatic(f.getModifiers())).count();
            check(one + " has at most twenty fields", fields <= 20);
            for (Method method : one.getDeclaredMethods()) {
                check(one + " uses the face's name " + method.getName(),
                    FACE.stream().noneMatch(f -> f.startsWith(method.getName() + "/")));
                check(method + " has too many parameters", method.getParameterCount() <= 7);
            }
        }
    }

    private static void hidden(Member[] members) {
        for (Member member : members) {
            boolean ofFace = FACE.stream().anyMatch(f -> f.startsWith(member.getName() + "/")) && member instanceof Method;
            check(member + " is to be private", ofFace || Modifier.isPrivate(member.getModifiers()));
            check(member + " is to be final", !Modifier.isStatic(member.getModifiers())
                || member instanceof Method || Modifier.isFinal(member.getModifiers()));
        }
    }

    private static Object[] arguments(Method method, Random dice) {
        Object[] all = new Object[method.getParameterCount()];
        int[] odd = {Integer.MIN_VALUE, -1, 9, 10, 31, 32, 33, 511, 512, 513, 1000, 1440, 1 << 30, Integer.MAX_VALUE};
        for (int i = 0; i < all.length; i++) {
            if (method.getParameterTypes()[i] == boolean.class) all[i] = dice.nextBoolean();
            else all[i] = dice.nextInt(5) == 0 ? odd[dice.nextInt(odd.length)] : dice.nextInt(dice.nextBoolean() ? 10 : 512);
        }
        return all;
    }

    private static void nothingThrown() {
        Method[] methods = RidePools.class.getMethods();
        for (int seed = 0; seed < 200; seed++) {
            Random dice = new Random(seed);
            RidePools x = new RidePools();
            for (int i = 0; i < CALLS; i++) {
                Method method = methods[dice.nextInt(methods.length)];
                if (method.getDeclaringClass() != RidePools.class) continue;
                Object[] arguments = arguments(method, dice);
                try {
                    method.invoke(x, arguments);
                } catch (ReflectiveOperationException e) {
                    check(method.getName() + Arrays.toString(arguments) + " threw " + e.getCause(), false);
                }
            }
        }
    }

    /** The dearest calls make no objects: what an object needs, its constructor makes. */
    private static void room() {
        dearCalls();
        com.sun.management.ThreadMXBean threads =
            (com.sun.management.ThreadMXBean) java.lang.management.ManagementFactory.getThreadMXBean();
        long before = threads.getCurrentThreadAllocatedBytes();
        dearCalls();
        long used = threads.getCurrentThreadAllocatedBytes() - before;
        check("a run of 512 dear calls takes " + used + " bytes", used < 64 * 1024);
    }

    private static void dearCalls() {
        RidePools x = new RidePools();
        for (int a = 0; a < 10; a++) {
            for (int b = 0; b < 10; b++) x.minutes(a, b, (a * 7 + b * 3) % 20);
        }
        for (int p = 0; p < 9; p++) x.person(0, p, 9 - p == p ? 0 : 9 - p, 0, 1440, 300, 5);
        for (int i = 0; i < 80; i++) {
            x.minutes(0, 1, i % 20);
            x.plan();
            x.even();
            x.fail(i % 9);
            x.broken(i % 9, false);
        }
    }
}
