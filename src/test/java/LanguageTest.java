import java.io.IOException;
import java.lang.reflect.Array;
import java.lang.reflect.Constructor;
import java.lang.reflect.Executable;
import java.lang.reflect.Field;
import java.lang.reflect.Method;
import java.lang.reflect.Modifier;
import java.nio.file.Files;
import java.nio.file.Path;
import java.util.Arrays;
import java.util.Collections;
import java.util.IdentityHashMap;
import java.util.Set;
import java.util.TreeSet;
import java.util.regex.Matcher;
import java.util.regex.Pattern;
import java.util.stream.Collectors;

/** The public face as the document writes it, and those rules of LANGUAGE.md that a text shows. */
public final class LanguageTest {
    private static final String SOURCE = "src/main/java/SpaceWalls.java";
    private static final String DOCUMENT = "../shared/DOC.md";
    // A room holds some 600,000 objects and 7,300,000 elements; here each of a run's 512 calls makes a space.
    private static final int MOST_OBJECTS = 600000 / 512;
    private static final int MOST_ELEMENTS = 7300000 / 512;
    private static final String[] FORBIDDEN = {
        "\\bthrow\\b", "\\bthrows\\b", "\\btry\\b", "\\bcatch\\b", "\\bsynchronized\\b", "\\bassert\\b", "->", "::",
        "\\w+Exact\\b", "\\bpackage\\b", "\\bSystem\\.(?!arraycopy)", "\\bRandom\\b", "\\bThread\\b",
        "\\bhashCode\\b", "\\btoString\\b", "\\bequals\\b", "\\bstatic\\s*\\{", "\\bvar\\b", "\\bObject\\b"};
    private static final Due DUE = new Due("LanguageTest");

    private LanguageTest() { }

    public static void main(String[] args) throws IOException, IllegalAccessException {
        Set<String> face = faceOfDocument();
        publicFace(face);
        classesInside(face);
        sizeOfSpace();
        String code = withoutComments(Files.readString(Path.of(SOURCE)));
        forbiddenWords(code);
        newOnlyWhileMade(code);
        shortMethods(code);
        DUE.end();
    }

    /** The lines of the document's face, without the names of parameters. */
    private static Set<String> faceOfDocument() throws IOException {
        String text = Files.readString(Path.of(DOCUMENT));
        Matcher block = Pattern.compile("(?s)## The public face\\s+```java\n(.*?)```").matcher(text);
        DUE.holds("the document has a face", block.find());
        Set<String> lines = new TreeSet<>();
        for (String line : block.group(1).split("\n")) {
            String member = line.strip().replaceAll("int \\w+(?=[,)])", "int");
            if (!member.equals("}")) {
                lines.add(member);
            }
        }
        return lines;
    }

    private static void publicFace(Set<String> due) throws IllegalAccessException {
        Class<SpaceWalls> type = SpaceWalls.class;
        Set<String> seen = new TreeSet<>();
        seen.add(Modifier.toString(type.getModifiers()) + " class " + type.getSimpleName() + " {");
        for (Method method : type.getDeclaredMethods()) {
            if (!Modifier.isPrivate(method.getModifiers())) {
                seen.add(headOf(method, method.getReturnType().getSimpleName() + " " + method.getName()));
            }
        }
        for (Constructor<?> constructor : type.getDeclaredConstructors()) {
            seen.add(headOf(constructor, type.getSimpleName()));
        }
        for (Field field : type.getDeclaredFields()) {
            String how = Modifier.toString(field.getModifiers());
            if (!Modifier.isPrivate(field.getModifiers())) {
                Object value = how.contains("static") ? field.get(null) : "of each object";
                seen.add(how + " " + field.getType() + " " + field.getName() + " = " + value + ";");
            }
            DUE.holds(field.getName() + " static but final", !how.contains("static") || how.contains("final"));
        }
        DUE.is("the face", String.join("\n", seen), String.join("\n", due));
    }

    private static String headOf(Executable member, String name) {
        String types = Arrays.stream(member.getParameterTypes()).map(Class::getSimpleName)
            .collect(Collectors.joining(", "));
        return Modifier.toString(member.getModifiers()) + " " + name + "(" + types + ");";
    }

    private static void classesInside(Set<String> face) {
        Set<String> names = new TreeSet<>();
        for (String line : face) {
            names.add(line.replaceAll("^public \\w+ (\\w+)\\(.*", "$1"));
        }
        for (Method method : SpaceWalls.class.getDeclaredMethods()) {
            DUE.holds("private " + method.getName(), !Modifier.isPrivate(method.getModifiers())
                || !names.contains(method.getName()));
        }
        Class<?>[] inside = SpaceWalls.class.getDeclaredClasses();
        DUE.holds("at most twelve classes", inside.length <= 11);
        for (Class<?> type : inside) {
            int how = type.getModifiers();
            DUE.holds(type + " static, not public", Modifier.isStatic(how) && !Modifier.isPublic(how)
                && !Modifier.isProtected(how));
            DUE.holds(type + " has few fields", type.getDeclaredFields().length <= 20);
            for (Method method : type.getDeclaredMethods()) {
                DUE.holds(type + " " + method.getName(), !names.contains(method.getName()));
                DUE.holds(method + " takes few", method.getParameterCount() <= 7);
            }
        }
    }

    /** What a new space is made of; as calls make nothing, it is all that a run makes of it. */
    private static void sizeOfSpace() throws IllegalAccessException {
        Set<Object> seen = Collections.newSetFromMap(new IdentityHashMap<>());
        int elements = elementsOf(new SpaceWalls(3), seen);
        DUE.holds(seen.size() + " objects", seen.size() <= MOST_OBJECTS);
        DUE.holds(elements + " fields and elements", elements <= MOST_ELEMENTS);
        // A walk that finds nothing would hold, too.
        DUE.holds("what a space is made of is found", seen.size() > 1 && elements > seen.size());
    }

    private static int elementsOf(Object part, Set<Object> seen) throws IllegalAccessException {
        if (part == null || !seen.add(part)) {
            return 0;
        }
        int sum = part.getClass().isArray() ? Array.getLength(part) : 0;
        if (part instanceof Object[] parts) {
            for (Object inner : parts) {
                sum += elementsOf(inner, seen);
            }
        }
        for (Field field : part.getClass().getDeclaredFields()) {
            if (!Modifier.isStatic(field.getModifiers())) {
                sum++;
                field.setAccessible(true);
                sum += field.getType().isPrimitive() ? 0 : elementsOf(field.get(part), seen);
            }
        }
        return sum;
    }

    private static String withoutComments(String text) {
        return text.replaceAll("(?s)/\\*.*?\\*/", "").replaceAll("//[^\n]*", "");
    }

    private static void forbiddenWords(String code) {
        for (String word : FORBIDDEN) {
            Matcher matcher = Pattern.compile(word).matcher(code);
            DUE.holds("no " + word, !matcher.find());
        }
        Matcher imports = Pattern.compile("import ([^;]*);").matcher(code);
        while (imports.find()) {
            DUE.holds("import " + imports.group(1), imports.group(1).equals("java.util.Arrays"));
        }
    }

    /** Calls live in one room with all others, so nothing is made but while the object is made. */
    private static void newOnlyWhileMade(String code) {
        for (String line : code.split("\n")) {
            if (line.contains("new ")) {
                DUE.holds("made in a field or in the constructor: " + line.strip(),
                    line.matches("\\s+private final .* = new .*;") || line.matches("        \\w+ = new \\w+\\(.*\\);"));
            }
        }
    }

    private static void shortMethods(String code) {
        int length = 0;
        for (String line : code.split("\n")) {
            boolean isHead = line.matches("    (    )?\\w.*\\) \\{");
            length = isHead ? 0 : length + 1;
            if (line.matches("    (    )?\\}")) {
                DUE.holds("short methods", length <= 60);
            }
        }
    }
}
