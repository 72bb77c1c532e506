import java.io.IOException;
import java.lang.reflect.Constructor;
import java.lang.reflect.Field;
import java.lang.reflect.Method;
import java.lang.reflect.Modifier;
import java.nio.file.Files;
import java.nio.file.Path;
import java.util.Arrays;
import java.util.Set;
import java.util.TreeSet;
import java.util.regex.Matcher;
import java.util.regex.Pattern;

/** The public face as the document writes it, and those rules of LANGUAGE.md that a text shows. */
public final class LanguageTest {
    private static final String SOURCE = "src/main/java/SpaceWalls.java";
    private static final String[] FACE = {
        "int wall(int, int, int, int)", "boolean take(int)", "int told(int, int)", "int row(int, int, int)",
        "int faces(int)", "int face(int, int)", "int width(int)", "boolean bounded(int)", "int boundedRooms()",
        "int poly(int)", "int without(int, int)", "int on(int, int)", "int walls(int)", "int beside(int, int)",
        "int way(int, int)", "int step(int, int)", "int far()", "int left(int)", "int count(int)"};
    private static final String[] FORBIDDEN = {
        "\\bthrow\\b", "\\bthrows\\b", "\\btry\\b", "\\bcatch\\b", "\\bsynchronized\\b", "\\bassert\\b", "->", "::",
        "\\w+Exact\\b", "\\bpackage\\b", "\\bSystem\\.(?!arraycopy)", "\\bRandom\\b", "\\bThread\\b",
        "\\bhashCode\\b", "\\btoString\\b", "\\bequals\\b", "\\bstatic\\s*\\{", "\\bvar\\b", "\\bObject\\b"};
    private static final Due DUE = new Due("LanguageTest");

    private LanguageTest() { }

    public static void main(String[] args) throws IOException {
        publicFace();
        classesInside();
        String code = withoutComments(Files.readString(Path.of(SOURCE)));
        forbiddenWords(code);
        newOnlyWhileMade(code);
        shortMethods(code);
        DUE.end();
    }

    private static void publicFace() {
        Class<SpaceWalls> type = SpaceWalls.class;
        DUE.holds("public and final", Modifier.isPublic(type.getModifiers()) && Modifier.isFinal(type.getModifiers()));
        Set<String> seen = new TreeSet<>();
        for (Method method : type.getDeclaredMethods()) {
            if (!Modifier.isPrivate(method.getModifiers())) {
                seen.add(signature(method));
            }
        }
        Set<String> due = new TreeSet<>(Arrays.asList(FACE));
        DUE.holds("the face is " + seen, seen.equals(due));
        Constructor<?>[] made = type.getDeclaredConstructors();
        DUE.holds("one constructor", made.length == 1 && Modifier.isPublic(made[0].getModifiers())
            && Arrays.equals(made[0].getParameterTypes(), new Class<?>[] {int.class}));
        for (Field field : type.getDeclaredFields()) {
            boolean isNone = field.getName().equals("NONE");
            DUE.holds(field.getName(), isNone == !Modifier.isPrivate(field.getModifiers()));
            DUE.holds(field.getName() + " static but final", !Modifier.isStatic(field.getModifiers())
                || Modifier.isFinal(field.getModifiers()));
        }
    }

    private static String signature(Method method) {
        StringBuilder text = new StringBuilder();
        text.append(method.getReturnType().getSimpleName()).append(' ').append(method.getName()).append('(');
        String between = "";
        for (Class<?> type : method.getParameterTypes()) {
            text.append(between).append(type.getSimpleName());
            between = ", ";
        }
        DUE.holds(method.getName() + " is public and not static", Modifier.isPublic(method.getModifiers())
            && !Modifier.isStatic(method.getModifiers()));
        return text.append(')').toString();
    }

    private static void classesInside() {
        Set<String> names = new TreeSet<>();
        for (String signature : FACE) {
            names.add(signature.replaceAll("^\\w+ (\\w+)\\(.*", "$1"));
        }
        for (Method method : SpaceWalls.class.getDeclaredMethods()) {
            DUE.holds("private " + method.getName(), !Modifier.isPrivate(method.getModifiers())
                || !names.contains(method.getName()));
        }
        Class<?>[] inside = SpaceWalls.class.getDeclaredClasses();
        DUE.holds("at most twelve classes", inside.length <= 11);
        for (Class<?> type : inside) {
            int how = type.getModifiers();
            DUE.holds(type + " static, not public", Modifier.isStatic(how) && !Modifier.isPublic(how)
                && !Modifier.isProtected(how));
            DUE.holds(type + " has few fields", type.getDeclaredFields().length <= 20);
            for (Method method : type.getDeclaredMethods()) {
                DUE.holds(type + " " + method.getName(), !names.contains(method.getName()));
                DUE.holds(method + " takes few", method.getParameterCount() <= 7);
            }
        }
    }

    private static String withoutComments(String text) {
        return text.replaceAll("(?s)/\\*.*?\\*/", "").replaceAll("//[^\n]*", "");
    }

    private static void forbiddenWords(String code) {
        for (String word : FORBIDDEN) {
            Matcher matcher = Pattern.compile(word).matcher(code);
            DUE.holds("no " + word, !matcher.find());
        }
        Matcher imports = Pattern.compile("import ([^;]*);").matcher(code);
        while (imports.find()) {
            DUE.holds("import " + imports.group(1), imports.group(1).equals("java.util.Arrays"));
        }
    }

    /** Calls live in one room with all others, so nothing is made but while the object is made. */
    private static void newOnlyWhileMade(String code) {
        for (String line : code.split("\n")) {
            if (line.contains("new ")) {
                DUE.holds("made in a field or in the constructor: " + line.strip(),
                    line.matches("\\s+private final .* = new .*;") || line.matches("        \\w+ = new \\w+\\(.*\\);"));
            }
        }
    }

    private static void shortMethods(String code) {
        int length = 0;
        for (String line : code.split("\n")) {
            boolean isHead = line.matches("    (    )?\\w.*\\) \\{");
            length = isHead ? 0 : length + 1;
            if (line.matches("    (    )?\\}")) {
                DUE.holds("short methods", length <= 60);
            }
        }
    }
}
