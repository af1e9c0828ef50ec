import java.io.IOException;
import java.lang.reflect.Array;
import java.lang.reflect.Field;
import java.lang.reflect.InvocationTargetException;
import java.lang.reflect.Method;
import java.lang.reflect.Modifier;
import java.nio.charset.StandardCharsets;
import java.nio.file.Files;
import java.nio.file.Path;
import java.util.Collections;
import java.util.IdentityHashMap;
import java.util.List;
import java.util.Set;
import java.util.TreeSet;
import java.util.regex.Matcher;
import java.util.regex.Pattern;
import java.util.stream.Stream;

/** What README.md says of the class: each call that it shows is made, and each answer that it shows is looked at. */
public final class ReadmeTests extends NetTest {
    private static final Pattern NEW_OBJECT = Pattern.compile("NetShapes x = new NetShapes\\(\\);( +//.*)?");
    private static final Pattern CALL = Pattern.compile("x\\.(\\w+)\\(([-0-9, ]*)\\); +// (-?[0-9]+)(:.*)?");
    private static final Pattern ROOM = Pattern.compile("some ([0-9,]+) objects, ([0-9,]+) fields and elements");

    private static final Set<String> shown = new TreeSet<>();
    private static NetShapes x = null;

    public static void main(String[] args) throws IOException, ReflectiveOperationException {
        String text = Files.readString(Path.of("README.md"), StandardCharsets.UTF_8);
        callsAndAnswers(text);
        everyCallIsShown();
        namedClasses(text);
        namedTests(text);
        roomOfAnObject(text);
        end();
    }

    private static void callsAndAnswers(String text) throws ReflectiveOperationException {
        under("README, the calls that it shows");
        boolean inBlock = false;
        for (String line : text.split("\n", -1)) {
            if (line.startsWith("```")) {
                inBlock = line.equals("```java");
            } else if (inBlock) {
                lineOfBlock(line);
            }
        }
        holds("a call is shown", !shown.isEmpty());
    }

    private static void lineOfBlock(String line) throws ReflectiveOperationException {
        Matcher call = CALL.matcher(line);
        if (NEW_OBJECT.matcher(line).matches()) {
            x = new NetShapes();
        } else if (call.matches() && x != null) {
            shown.add(call.group(1));
            due(line, answer(call.group(1), call.group(2)), Long.parseLong(call.group(3)));
        } else {
            dueText("a line of a block", line, "a new object, or a call with its answer behind it");
        }
    }

    private static long answer(String name, String told) throws ReflectiveOperationException {
        String[] texts = told.isEmpty() ? new String[0] : told.split(", ");
        Object[] numbers = new Object[texts.length];
        Class<?>[] types = new Class<?>[texts.length];
        for (int i = 0; i < texts.length; i++) {
            numbers[i] = Integer.valueOf(texts[i]);
            types[i] = int.class;
        }
        try {
            return ((Number) NetShapes.class.getMethod(name, types).invoke(x, numbers)).longValue();
        } catch (InvocationTargetException thrown) {
            throw new IllegalStateException(name + "(" + told + ") threw", thrown.getCause());
        }
    }

    private static void everyCallIsShown() {
        under("README, show every call");
        Set<String> face = new TreeSet<>();
        for (Method method : NetShapes.class.getDeclaredMethods()) {
            if (Modifier.isPublic(method.getModifiers())) {
                face.add(method.getName());
            }
        }
        dueText("the calls shown", shown.toString(), face.toString());
    }

    private static String section(String text, String heading) {
        int from = text.indexOf("\n## " + heading + "\n");
        if (from < 0) {
            return "";
        }
        int to = text.indexOf("\n## ", from + 1);
        return to < 0 ? text.substring(from) : text.substring(from, to);
    }

    private static Set<String> namesIn(String text, String pattern) {
        Set<String> names = new TreeSet<>();
        Matcher matcher = Pattern.compile(pattern).matcher(text);
        while (matcher.find()) {
            names.add(matcher.group(1));
        }
        return names;
    }

    private static void namedClasses(String text) {
        under("README, how it is built");
        Set<String> classes = new TreeSet<>(List.of("NetShapes"));
        for (Class<?> inside : NetShapes.class.getDeclaredClasses()) {
            classes.add(inside.getSimpleName());
        }
        dueText("the classes", namesIn(section(text, "How it is built"), "`(\\w+)`").toString(), classes.toString());
    }

    private static void namedTests(String text) throws IOException {
        under("README, how to run its tests");
        String section = section(text, "How to run its tests");
        Set<String> files = new TreeSet<>();
        try (Stream<Path> tests = Files.list(Path.of("src/test/java"))) {
            tests.forEach(file -> files.add(file.getFileName().toString().replace(".java", "")));
        }
        dueText("the tests", namesIn(section, "\n- `(\\w+)`:").toString(), files.toString());
        holds("the script is named", section.contains("\n    .ci/run\n"));
        holds("the script is there", Files.isExecutable(Path.of(".ci/run")));
        holds("what they share is there", Files.exists(Path.of("src/test/support/NetTest.java")));
    }

    private static void roomOfAnObject(String text) throws ReflectiveOperationException {
        under("README, what the constructor makes");
        Matcher told = ROOM.matcher(text);
        holds("it is told", told.find());
        long objects = Long.parseLong(told.group(1).replace(",", ""));
        long elements = Long.parseLong(told.group(2).replace(",", ""));
        long[] found = new long[2];
        addRoom(new NetShapes(), found, Collections.newSetFromMap(new IdentityHashMap<>()));
        holds("some " + objects + " objects: " + found[0], Math.abs(found[0] - objects) * 10 <= objects);
        holds("some " + elements + " elements: " + found[1], Math.abs(found[1] - elements) * 10 <= elements);
        long[] used = new long[2];
        addRoom(x, used, Collections.newSetFromMap(new IdentityHashMap<>()));
        due("objects after all calls", used[0], found[0]);
        due("elements after all calls", used[1], found[1]);
    }

    /** Adds the object and all that it holds: how many objects and arrays, how many fields and elements. */
    private static void addRoom(Object object, long[] found, Set<Object> seen) throws ReflectiveOperationException {
        if (object == null || !seen.add(object)) {
            return;
        }
        found[0]++;
        if (object.getClass().isArray()) {
            found[1] += Array.getLength(object);
            for (int i = 0; object instanceof Object[] row && i < row.length; i++) {
                addRoom(row[i], found, seen);
            }
            return;
        }
        for (Field field : object.getClass().getDeclaredFields()) {
            if (!Modifier.isStatic(field.getModifiers())) {
                found[1]++;
                field.setAccessible(true);
                if (!field.getType().isPrimitive()) {
                    addRoom(field.get(object), found, seen);
                }
            }
        }
    }
}
