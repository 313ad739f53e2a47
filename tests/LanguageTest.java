import java.io.IOException;
import java.lang.reflect.Field;
import java.lang.reflect.Method;
import java.lang.reflect.Modifier;
import java.nio.file.Files;
import java.nio.file.Path;
import java.util.ArrayList;
import java.util.HashMap;
import java.util.HashSet;
import java.util.List;
import java.util.Map;
import java.util.Set;
import java.util.regex.Matcher;
import java.util.regex.Pattern;

/** Those rules of LANGUAGE.md that can be seen from words and members alone. */
public final class LanguageTest {
    private static final Path SOURCE = Path.of("src/main/java/HayBoard.java");
    private static final String[] RULED_OUT = {"throw", "throws", "try", "catch", "finally", "synchronized", "assert",
        "import", "package", "record", "enum", "interface", "protected", "volatile", "transient", "native", "var",
        "Object", "Math\\.\\w+Exact", "hashCode", "toString", "equals", "->", "::", "\\bdouble\\b", "\\bfloat\\b",
        "Thread", "System\\.(?!arraycopy)", "Random", "static\\s*\\{"};
    private static final Set<String> LIBRARY = Set.of("String", "Math", "System");
    private static final int MOST_CLASSES = 12, MOST_PARAMETERS = 7, MOST_CALLS_OPEN = 8;
    private static final Pattern CLASS = Pattern.compile(" {0,4}[\\w ]*class (\\w+) \\{");
    private static final Pattern METHOD = Pattern.compile(" {4,8}(?!return |else )(?:[\\w\\[\\]]+ )*(\\w+)\\(.*\\) \\{");
    private static final Pattern CALL = Pattern.compile("(\\.)?\\b(?!(?:if|for|while|switch|return)\\b)(\\w+)\\(");

    // What each method calls, by CLASS.METHOD.
    private static final Map<String, Set<String>> CALLED = new HashMap<>();

    public static void main(String[] args) throws IOException {
        Due due = new Due("LanguageTest");
        String code = withoutComments(Files.readString(SOURCE));
        for (String word : RULED_OUT) {
            String pattern = Character.isLetter(word.charAt(0)) ? "\\b" + word + "\\b" : word;
            due.is("uses of " + word, Pattern.compile(pattern).matcher(code).results().count(), 0);
        }
        staticFieldsAreFinal(due, code);
        theFace(due);
        methodsAreShort(due, code);
        theLibrary(due, code);
        callsAreShallow(due, code);
        due.close();
    }

    private static String withoutComments(String source) {
        return source.replaceAll("(?s)/\\*.*?\\*/", "").replaceAll("//[^\n]*", "").replaceAll("\"[^\"\n]*\"", "\"\"");
    }

    private static void staticFieldsAreFinal(Due due, String code) {
        Matcher m = Pattern.compile("static (?!final)[\\w\\[\\]<>]+ \\w+( =|;|,)").matcher(code);
        due.is("static fields that are not final", m.results().count(), 0);
    }

    private static void theFace(Due due) {
        Set<String> open = new HashSet<>();
        for (Method m : HayBoard.class.getDeclaredMethods()) {
            if (Modifier.isPublic(m.getModifiers())) {
                open.add(m.getName());
            }
        }
        due.is("methods of the face", open.size(), 42);
        for (Method m : HayBoard.class.getDeclaredMethods()) {
            boolean isPrivate = Modifier.isPrivate(m.getModifiers());
            due.is("neither public nor private: " + m.getName(), isPrivate || open.contains(m.getName()) ? 0 : 1, 0);
            due.is("a private one that bears a public name: " + m.getName(), isPrivate && open.contains(m.getName()) ? 1 : 0, 0);
        }
        int constants = 0;
        for (Field f : HayBoard.class.getDeclaredFields()) {
            boolean isPrivate = Modifier.isPrivate(f.getModifiers());
            constants += isPrivate ? 0 : 1;
        }
        due.is("constants of the face", constants, 8);
        for (Class<?> inside : HayBoard.class.getDeclaredClasses()) {
            due.is("static: " + inside, Modifier.isStatic(inside.getModifiers()) ? 1 : 0, 1);
            due.is("closed: " + inside, Modifier.isPublic(inside.getModifiers()) ? 1 : 0, 0);
            due.is("fields of " + inside, inside.getDeclaredFields().length <= 20 ? 1 : 0, 1);
            for (Method m : inside.getDeclaredMethods()) {
                due.is("parameters of " + m, m.getParameterCount() <= MOST_PARAMETERS ? 1 : 0, 1);
                due.is("a public name in " + inside + ": " + m.getName(), open.contains(m.getName()) ? 1 : 0, 0);
            }
        }
    }

    private static void methodsAreShort(Due due, String code) {
        int length = 0;
        for (String line : code.split("\n")) {
            length++;
            if (line.matches(" {4,8}[\\w<>\\[\\] ]+\\(.*\\) \\{")) {
                length = 0;
            }
            if (line.matches(" {4,8}\\}")) {
                due.is("a method of " + length + " lines", length <= 60 ? 1 : 0, 1);
                length = 0;
            }
        }
    }

    private static void theLibrary(Due due, String code) {
        Set<String> own = new HashSet<>(Set.of("HayBoard"));
        for (Class<?> inside : HayBoard.class.getDeclaredClasses()) {
            own.add(inside.getSimpleName());
        }
        due.is("classes are few", own.size() <= MOST_CLASSES ? 1 : 0, 1);
        Matcher type = Pattern.compile("\\b[A-Z]\\w*[a-z]\\w*").matcher(code);
        while (type.find()) {
            due.is("may use " + type.group(), own.contains(type.group()) || LIBRARY.contains(type.group()) ? 1 : 0, 1);
        }
    }

    // ---- how deep calls go

    private static void callsAreShallow(Due due, String code) {
        readCalls(code);
        due.is("methods are read", CALLED.size() > 100 ? 1 : 0, 1);
        for (String method : CALLED.keySet()) {
            due.is("calls go deep from " + method, Math.max(depth(method), MOST_CALLS_OPEN), MOST_CALLS_OPEN);
        }
    }

    private static void readCalls(String code) {
        Map<String, List<String>> bodies = new HashMap<>();
        String type = "";
        String method = "";
        for (String line : code.split("\n")) {
            Matcher c = CLASS.matcher(line);
            Matcher m = METHOD.matcher(line);
            if (c.matches()) {
                type = c.group(1);
            } else if (m.matches() && line.indexOf(line.trim()) == (type.equals("HayBoard") ? 4 : 8)) {
                method = type + "." + m.group(1);
                bodies.computeIfAbsent(method, name -> new ArrayList<>());
            } else if (bodies.containsKey(method)) {
                bodies.get(method).add(line);
            }
        }
        for (String caller : bodies.keySet()) {
            Set<String> called = CALLED.computeIfAbsent(caller, name -> new HashSet<>());
            Matcher call = CALL.matcher(String.join("\n", bodies.get(caller)));
            while (call.find()) {
                called.addAll(meant(caller, call.group(1) != null, call.group(2), bodies.keySet()));
            }
        }
    }

    /** Which methods a call may mean: behind a dot those of all classes, or else the nearest one. */
    private static Set<String> meant(String caller, boolean behindDot, String name, Set<String> methods) {
        String near = caller.substring(0, caller.indexOf('.') + 1) + name;
        Set<String> found = new HashSet<>();
        for (String method : methods) {
            boolean isNamed = method.endsWith("." + name);
            if (isNamed && (behindDot || method.equals(near) || !methods.contains(near))) {
                found.add(method);
            }
        }
        return found;
    }

    /** How many calls stand open at once, those of one recursion taken for one. */
    private static int depth(String method) {
        int deepest = 0;
        for (String member : CALLED.keySet()) {
            boolean isOneRecursion = member.equals(method) || reached(method).contains(member) && reached(member).contains(method);
            for (String called : isOneRecursion ? CALLED.get(member) : Set.<String>of()) {
                if (!called.equals(method) && !reached(called).contains(method)) {
                    deepest = Math.max(deepest, depth(called));
                }
            }
        }
        return 1 + deepest;
    }

    private static Set<String> reached(String from) {
        Set<String> reached = new HashSet<>();
        List<String> open = new ArrayList<>(List.of(from));
        while (!open.isEmpty()) {
            for (String called : CALLED.get(open.remove(open.size() - 1))) {
                if (reached.add(called)) {
                    open.add(called);
                }
            }
        }
        return reached;
    }
}
