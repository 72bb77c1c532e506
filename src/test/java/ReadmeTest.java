import java.io.IOException;
import java.lang.reflect.InvocationTargetException;
import java.lang.reflect.Method;
import java.lang.reflect.Modifier;
import java.nio.file.Files;
import java.nio.file.Path;
import java.util.HashMap;
import java.util.Map;
import java.util.Set;
import java.util.TreeSet;
import java.util.regex.Matcher;
import java.util.regex.Pattern;

/**
 * Runs the Java that README.md shows, line by line and from its text alone: each call must answer what
 * the comment behind it begins with. It fails, too, if README.md shows what can't be run here.
 */
public final class ReadmeTest {
    private static final Path FILE = Path.of("README.md");
    private static final Path TESTS = Path.of("src/test/java");
    private static final int CALLS = 512;
    private static final Pattern BLOCK = Pattern.compile("(?ms)^```java$\n(.*?)^```$");
    private static final Pattern MAKING = Pattern.compile("SpaceWalls (\\w+) = new SpaceWalls\\((-?\\d+)\\);");
    private static final Pattern CALL = Pattern.compile("(?:(int|boolean) (\\w+) = )?(\\w+)\\.(\\w+)\\(([^()]*)\\);"
        + " +// (-?\\d+|true|false|NONE)(?![\\w.]).*");
    private static final Due DUE = new Due("ReadmeTest");

    private final Map<String, SpaceWalls> spaces = new HashMap<>();
    private final Map<String, Integer> calls = new HashMap<>();
    private final Map<String, Object> answers = new HashMap<>();
    private final Set<String> shown = new TreeSet<>();

    private ReadmeTest() { }

    public static void main(String[] args) throws IOException, ReflectiveOperationException {
        String text = Files.readString(FILE);
        new ReadmeTest().run(text);
        callsOutside(BLOCK.matcher(text).replaceAll(""));
        testsNamed(text);
        DUE.end();
    }

    private void run(String text) throws ReflectiveOperationException {
        Matcher blocks = BLOCK.matcher(text);
        while (blocks.find()) {
            for (String line : blocks.group(1).split("\n")) {
                runLine(line.strip());
            }
        }
        for (int count : calls.values()) {
            DUE.holds("an object has at most 512 calls, not " + count, count <= CALLS);
        }
        DUE.holds("README.md shows " + shown + " of " + face(), shown.equals(face()));
    }

    private void runLine(String line) throws ReflectiveOperationException {
        Matcher making = MAKING.matcher(line);
        Matcher call = CALL.matcher(line);
        if (making.matches()) {
            newName(line, making.group(1));
            spaces.put(making.group(1), new SpaceWalls(number(making.group(2))));
        } else if (call.matches()) {
            runCall(line, call);
        } else {
            DUE.holds("a line that can be run, with an answer: " + line, line.isEmpty());
        }
    }

    private void runCall(String line, Matcher call) throws ReflectiveOperationException {
        String name = call.group(3);
        DUE.holds("an object that is there: " + line, spaces.containsKey(name));
        Object[] arguments = argumentsOf(call.group(5));
        Method method = methodOf(call.group(4), arguments.length);
        DUE.holds("a call that there is: " + line, method != null);
        if (method == null || !spaces.containsKey(name)) {
            return;
        }
        calls.merge(name, 1, Integer::sum);
        shown.add(method.getName());
        Object answer = answerOf(line, method, spaces.get(name), arguments);
        DUE.is(line, String.valueOf(answer), call.group(6).equals("NONE") ? "-1" : call.group(6));
        if (call.group(2) != null) {
            DUE.is(line + " is of type", method.getReturnType().getName(), call.group(1));
            newName(line, call.group(2));
            answers.put(call.group(2), answer);
        }
    }

    private void newName(String line, String name) {
        DUE.holds("a new name: " + line, !spaces.containsKey(name) && !answers.containsKey(name));
    }

    private static Object answerOf(String line, Method method, SpaceWalls space, Object[] arguments)
            throws IllegalAccessException {
        try {
            return method.invoke(space, arguments);
        } catch (InvocationTargetException | IllegalArgumentException thrown) {
            DUE.holds(line + " threw " + thrown, false);
            return null;
        }
    }

    private Object[] argumentsOf(String list) {
        if (list.isBlank()) {
            return new Object[0];
        }
        String[] words = list.split(", ");
        Object[] arguments = new Object[words.length];
        for (int i = 0; i < words.length; i++) {
            arguments[i] = answers.containsKey(words[i]) ? answers.get(words[i]) : (Object) number(words[i]);
        }
        return arguments;
    }

    private static int number(String word) {
        boolean isNumber = word.matches("-?\\d{1,10}");
        DUE.holds("a number or the name of an answer: " + word, isNumber);
        return isNumber ? Integer.parseInt(word) : 0;
    }

    private static Method methodOf(String name, int parameters) {
        for (Method method : SpaceWalls.class.getDeclaredMethods()) {
            if (Modifier.isPublic(method.getModifiers()) && method.getName().equals(name)
                && method.getParameterCount() == parameters) {
                return method;
            }
        }
        return null;
    }

    private static Set<String> face() {
        Set<String> names = new TreeSet<>();
        for (Method method : SpaceWalls.class.getDeclaredMethods()) {
            if (Modifier.isPublic(method.getModifiers())) {
                names.add(method.getName());
            }
        }
        return names;
    }

    /** What README.md tells beside the blocks: no calls, which would not be run, and what NONE is. */
    private static void callsOutside(String text) {
        for (String name : face()) {
            boolean isCalled = Pattern.compile("\\b" + name + "\\(").matcher(text).find();
            DUE.holds("calls of " + name + " in blocks alone", !isCalled);
        }
        DUE.holds("no more blocks of Java", !text.contains("```java") && !text.contains("new SpaceWalls"));
        String onOneLine = text.replaceAll("\\s+", " ");
        DUE.holds("it tells NONE", onOneLine.contains("`SpaceWalls.NONE`, which is " + SpaceWalls.NONE + ","));
    }

    /** README.md names every test there is, and none that there isn't. */
    private static void testsNamed(String text) throws IOException {
        Set<String> named = new TreeSet<>();
        Matcher names = Pattern.compile("(?m)^- `(\\w+Test)`").matcher(text);
        while (names.find()) {
            named.add(names.group(1));
        }
        Set<String> there = new TreeSet<>();
        try (var files = Files.list(TESTS)) {
            files.map(file -> file.getFileName().toString()).filter(file -> file.endsWith("Test.java"))
                .forEach(file -> there.add(file.replace(".java", "")));
        }
        DUE.holds("README.md names the tests " + named + " of " + there, named.equals(there));
    }
}
