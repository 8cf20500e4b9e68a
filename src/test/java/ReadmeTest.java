import java.lang.reflect.Method;
import java.nio.file.Files;
import java.nio.file.Path;
import java.util.HashMap;
import java.util.List;
import java.util.Map;
import java.util.TreeSet;
import java.util.regex.Matcher;
import java.util.regex.Pattern;

/** README.md's words: its example answers what its comments say, it names every call, and every test that there is. */
public final class ReadmeTest {
    private static final Pattern CALL =
        Pattern.compile("(?:int (\\w+) = )?rides\\.(\\w+)\\(([^)]*)\\);\\s*// (-?\\d+).*");
    private static final Pattern NAMED_TEST = Pattern.compile("`(\\w+Test)`");
    private static final Answers answers = new Answers("ReadmeTest");

    public static void main(String[] args) throws Exception {
        List<String> lines = Files.readAllLines(Path.of("README.md"));
        example(lines);
        calls(String.join("\n", lines));
        tests(String.join("\n", lines));
        answers.close();
    }

    private static void example(List<String> lines) throws Exception {
        int at = lines.indexOf("```java") + 1;
        answers.due("README.md", "it has an example", at > 0 ? 1 : 0, 1);
        answers.due("README.md", "the example makes an object", lines.get(at).equals("RidePools rides = new RidePools();") ? 1 : 0, 1);
        RidePools rides = new RidePools();
        Map<String, Integer> names = new HashMap<>();
        for (at++; at < lines.size() && !lines.get(at).equals("```"); at++) {
            Matcher call = CALL.matcher(lines.get(at));
            answers.due("README.md", "a call with its answer: " + lines.get(at), call.matches() ? 1 : 0, 1);
            if (!call.matches()) continue;
            int got = make(rides, call.group(2), call.group(3), names);
            answers.due("README.md", lines.get(at), got, Integer.parseInt(call.group(4)));
            if (call.group(1) != null) names.put(call.group(1), got);
        }
    }

    private static int make(RidePools rides, String name, String written, Map<String, Integer> names) throws Exception {
        String[] words = written.isEmpty() ? new String[0] : written.split(", ");
        Object[] values = new Object[words.length];
        for (int i = 0; i < words.length; i++) values[i] = value(words[i], names);
        for (Method method : RidePools.class.getDeclaredMethods()) {
            if (method.getName().equals(name)) return (int) method.invoke(rides, values);
        }
        throw new IllegalStateException("README.md calls " + name);
    }

    private static Object value(String word, Map<String, Integer> names) {
        if (word.equals("true") || word.equals("false")) return Boolean.valueOf(word);
        return names.containsKey(word) ? names.get(word) : Integer.valueOf(word);
    }

    private static void calls(String text) {
        for (Method method : RidePools.class.getMethods()) {
            if (method.getDeclaringClass() == RidePools.class) {
                answers.due("README.md", "it names " + method.getName(), text.contains("`" + method.getName() + "`")
                    || text.contains("rides." + method.getName() + "(") ? 1 : 0, 1);
            }
        }
    }

    private static void tests(String text) throws Exception {
        TreeSet<String> named = new TreeSet<>();
        Matcher names = NAMED_TEST.matcher(text);
        while (names.find()) named.add(names.group(1));
        TreeSet<String> there = new TreeSet<>();
        try (var files = Files.list(Path.of("src/test/java"))) {
            files.map(file -> file.getFileName().toString()).filter(name -> name.endsWith("Test.java"))
                .forEach(name -> there.add(name.substring(0, name.length() - ".java".length())));
        }
        answers.due("README.md", "it names the tests " + named + ", there are " + there, named.equals(there) ? 1 : 0, 1);
    }
}
