import java.io.IOException;
import java.lang.reflect.Constructor;
import java.lang.reflect.Field;
import java.lang.reflect.Method;
import java.lang.reflect.Modifier;
import java.nio.charset.StandardCharsets;
import java.nio.file.Files;
import java.nio.file.Path;
import java.util.Arrays;
import java.util.List;
import java.util.Map;
import java.util.Set;
import java.util.TreeMap;
import java.util.TreeSet;
import java.util.regex.Matcher;
import java.util.regex.Pattern;

/** The rules of LANGUAGE.md that can be looked at in the text or in the compiled class. */
public final class LanguageTests {
    private static final String SOURCE = "src/main/java/NetShapes.java";
    private static final Set<String> FACE = new TreeSet<>(List.of(
        "int posts(int)", "int link(int,int,int,int)", "int cut(int,int)", "int linkOf(int,int,int)",
        "int at(int,int)", "int shape(int,int,int)", "int shapeOf(int,int)", "int place(int,int,int)",
        "int count(int)", "int countOf(int,int,int)", "int role(int)", "int roles()", "int fours(int)",
        "int seed(int)", "int swap(int,int)", "int mix(int)", "long mean(int,int)", "int more(int)",
        "int chains(int,int)", "int burst(int,int)", "int signs(int)", "int sides(int)", "int walks(int,int,int,int)",
        "int sample(int,int,int)", "int keep(int)", "int take(int)", "int lose(int)", "int far(int)",
        "int status(int)"));

    private static int wrong = 0;

    public static void main(String[] args) throws IOException {
        String text = Files.readString(Path.of(SOURCE), StandardCharsets.UTF_8);
        face();
        insideClasses();
        words(withoutComments(text));
        signs(text);
        sizes();
        methodLengths(text);
        Map<String, String> bodies = methodBodies(withoutComments(text));
        callDepths(bodies);
        objectsInConstructorsAlone(bodies);
        System.out.println(wrong == 0 ? "the rules looked at are kept" : wrong + " rules are broken");
        if (wrong != 0) {
            System.exit(1);
        }
    }

    private static void must(boolean holds, String rule) {
        if (!holds) {
            wrong++;
            System.out.println("broken: " + rule);
        }
    }

    private static String signature(Method method) {
        StringBuilder types = new StringBuilder();
        for (Class<?> type : method.getParameterTypes()) {
            types.append(types.length() == 0 ? "" : ",").append(type.getName());
        }
        return method.getReturnType().getName() + " " + method.getName() + "(" + types + ")";
    }

    private static void face() {
        Class<?> type = NetShapes.class;
        must(Modifier.isPublic(type.getModifiers()) && Modifier.isFinal(type.getModifiers()), "1: public and final");
        must(type.getPackageName().isEmpty(), "no package line");
        Set<String> found = new TreeSet<>();
        for (Method method : type.getDeclaredMethods()) {
            if (!Modifier.isPrivate(method.getModifiers())) {
                must(Modifier.isPublic(method.getModifiers()), "1: not public, not private: " + method);
                must(!Modifier.isStatic(method.getModifiers()), "1: static in the face: " + method);
                found.add(signature(method));
            }
        }
        must(found.equals(FACE), "1: the face is " + found);
        Constructor<?>[] constructors = type.getDeclaredConstructors();
        must(constructors.length == 1 && constructors[0].getParameterCount() == 0
            && Modifier.isPublic(constructors[0].getModifiers()), "1: one public constructor");
        for (Field field : type.getDeclaredFields()) {
            must(Modifier.isPrivate(field.getModifiers()), "1: not private: " + field);
        }
    }

    private static void insideClasses() {
        for (Class<?> inside : NetShapes.class.getDeclaredClasses()) {
            int modifiers = inside.getModifiers();
            must(Modifier.isStatic(modifiers), "2: not static: " + inside);
            must(!Modifier.isPublic(modifiers) && !Modifier.isProtected(modifiers), "1: visible: " + inside);
        }
        Set<String> faceNames = new TreeSet<>();
        for (String signature : FACE) {
            faceNames.add(signature.substring(signature.indexOf(' ') + 1, signature.indexOf('(')));
        }
        for (Class<?> type : allClasses()) {
            for (Method method : type.getDeclaredMethods()) {
                boolean ofFace = type == NetShapes.class && Modifier.isPublic(method.getModifiers());
                must(ofFace || !faceNames.contains(method.getName()), "1: a name of the face: " + method);
            }
        }
    }

    private static Class<?>[] allClasses() {
        Class<?>[] inside = NetShapes.class.getDeclaredClasses();
        Class<?>[] all = Arrays.copyOf(inside, inside.length + 1);
        all[inside.length] = NetShapes.class;
        return all;
    }

    private static void words(String code) {
        List<String> forbidden = List.of("throw", "throws", "try", "catch", "finally", "synchronized", "assert",
            "import", "package", "volatile", "transient", "native", "hashCode", "toString", "Thread", "Object");
        for (String word : forbidden) {
            must(!Pattern.compile("\\b" + word + "\\b").matcher(code).find(), "the word " + word);
        }
        must(!code.contains("->") && !code.contains("::"), "2: lambda or method reference");
        must(!Pattern.compile("\\bstatic\\s*\\{").matcher(code).find(), "5: static initialiser block");
        must(!Pattern.compile("Exact\\s*\\(").matcher(code).find(), "4: a function that ends in Exact");
        Matcher system = Pattern.compile("\\bSystem\\s*\\.\\s*(\\w+)").matcher(code);
        while (system.find()) {
            must(system.group(1).equals("arraycopy"), "4: System." + system.group(1));
        }
        Matcher library = Pattern.compile("\\b(Math|Integer|Long)\\s*\\.\\s*(\\w+)").matcher(code);
        List<String> known = List.of("Math.max", "Math.min", "Math.abs", "Integer.bitCount", "Long.compare");
        while (library.find()) {
            must(known.contains(library.group(1) + "." + library.group(2)), "4: " + library.group());
        }
    }

    private static void signs(String text) {
        for (int i = 0; i < text.length(); i++) {
            must(text.charAt(i) < 128, "4: a sign above 127 at " + i);
        }
        for (Class<?> type : allClasses()) {
            for (Field field : type.getDeclaredFields()) {
                int modifiers = field.getModifiers();
                must(!Modifier.isStatic(modifiers) || Modifier.isFinal(modifiers), "5: static, not final: " + field);
            }
        }
    }

    private static void sizes() {
        must(allClasses().length <= 12, "11: classes");
        for (Class<?> type : allClasses()) {
            int fields = 0;
            for (Field field : type.getDeclaredFields()) {
                fields += Modifier.isStatic(field.getModifiers()) ? 0 : 1;
            }
            must(fields <= 20, "11: fields of " + type);
            for (Method method : type.getDeclaredMethods()) {
                must(method.getParameterCount() <= 7, "11: parameters of " + method);
            }
        }
    }

    /** A method begins with a line that ends in ") {" after its indentation, and ends with the brace below it. */
    private static void methodLengths(String text) {
        String[] lines = text.split("\n", -1);
        Pattern head = Pattern.compile("^( {4}| {8})[a-zA-Z].*\\) \\{$");
        Pattern statement = Pattern.compile("^ +(if|for|while|switch|else|do)\\b.*");
        for (int i = 0; i < lines.length; i++) {
            Matcher matcher = head.matcher(lines[i]);
            if (matcher.matches() && !statement.matcher(lines[i]).matches()) {
                int end = i;
                while (end < lines.length && !lines[end].equals(matcher.group(1) + "}")) {
                    end++;
                }
                must(end - i < 60, "11: a long method at line " + (i + 1));
            }
        }
    }

    /** By a method's name the texts of all methods that bear it; constructors bear the names of their classes. */
    private static Map<String, String> methodBodies(String code) {
        Map<String, String> bodies = new TreeMap<>();
        String head = "^( {4}| {8})(?! |if|for|while|switch|else|do\\b)[^\n=;(]*?(\\w+)\\([^\n;]*\\) \\{$";
        Pattern method = Pattern.compile("(?ms)" + head + "(.*?)^\\1\\}$");
        Matcher matcher = method.matcher(code);
        while (matcher.find()) {
            bodies.merge(matcher.group(2), matcher.group(3), String::concat);
        }
        Set<String> missed = new TreeSet<>();
        for (Class<?> type : allClasses()) {
            for (Method declared : type.getDeclaredMethods()) {
                if (!declared.isSynthetic() && !bodies.containsKey(declared.getName())) {
                    missed.add(declared.getName());
                }
            }
        }
        must(missed.isEmpty(), "methods whose text this test does not find: " + missed);
        return bodies;
    }

    private static void callDepths(Map<String, String> bodies) {
        for (String name : bodies.keySet()) {
            int depth = depthOf(name, bodies, 0);
            must(depth <= 8, "8, 11: calls go more than eight deep from " + name);
        }
    }

    /** A method that calls itself, by others too, comes out deeper than any bound. */
    private static int depthOf(String name, Map<String, String> bodies, int above) {
        int deepest = 0;
        Matcher call = Pattern.compile("\\b(\\w+)\\(").matcher(bodies.get(name));
        while (above < 20 && call.find()) {
            if (bodies.containsKey(call.group(1))) {
                deepest = Math.max(deepest, depthOf(call.group(1), bodies, above + 1));
            }
        }
        return above < 20 ? deepest + 1 : 100;
    }

    /** Not LANGUAGE.md's own rule but how the class keeps rule 12: no call makes an object. */
    private static void objectsInConstructorsAlone(Map<String, String> bodies) {
        Set<String> classes = new TreeSet<>();
        for (Class<?> type : allClasses()) {
            classes.add(type.getSimpleName());
        }
        for (Map.Entry<String, String> body : bodies.entrySet()) {
            boolean makes = Pattern.compile("\\bnew\\b|\\.clone\\(|copyOf").matcher(body.getValue()).find();
            must(classes.contains(body.getKey()) || !makes, "12: " + body.getKey() + " makes an object");
        }
    }

    private static String withoutComments(String text) {
        return text.replaceAll("(?s)/\\*.*?\\*/", " ").replaceAll("//[^\n]*", " ");
    }
}
