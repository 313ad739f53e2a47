import java.io.IOException;
import java.lang.reflect.Field;
import java.lang.reflect.Method;
import java.lang.reflect.Modifier;
import java.nio.file.Files;
import java.nio.file.Path;
import java.util.HashSet;
import java.util.Set;
import java.util.regex.Matcher;
import java.util.regex.Pattern;

/** Those rules of LANGUAGE.md that can be seen from words and members alone. */
public final class LanguageTest {
    private static final Path SOURCE = Path.of("src/main/java/HayBoard.java");
    private static final String[] RULED_OUT = {"throw", "throws", "try", "catch", "finally", "synchronized", "assert",
        "import", "package", "record", "enum", "interface", "protected", "volatile", "transient", "native", "var",
        "Object", "Math\\.\\w+Exact", "hashCode", "toString", "equals", "->", "::", "\\bdouble\\b", "\\bfloat\\b",
        "Thread", "System\\.(?!arraycopy)", "Random", "static\\s*\\{"};

    public static void main(String[] args) throws IOException {
        Due due = new Due("LanguageTest");
        String code = withoutComments(Files.readString(SOURCE));
        for (String word : RULED_OUT) {
            String pattern = Character.isLetter(word.charAt(0)) ? "\\b" + word + "\\b" : word;
            due.is("uses of " + word, Pattern.compile(pattern).matcher(code).results().count(), 0);
        }
        staticFieldsAreFinal(due, code);
        theFace(due);
        methodsAreShort(due, code);
        due.close();
    }

    private static String withoutComments(String source) {
        return source.replaceAll("(?s)/\\*.*?\\*/", "").replaceAll("//[^\n]*", "").replaceAll("\"[^\"\n]*\"", "\"\"");
    }

    private static void staticFieldsAreFinal(Due due, String code) {
        Matcher m = Pattern.compile("static (?!final)[\\w\\[\\]<>]+ \\w+( =|;|,)").matcher(code);
        due.is("static fields that are not final", m.results().count(), 0);
    }

    private static void theFace(Due due) {
        Set<String> open = new HashSet<>();
        for (Method m : HayBoard.class.getDeclaredMethods()) {
            if (Modifier.isPublic(m.getModifiers())) {
                open.add(m.getName());
            }
        }
        due.is("methods of the face", open.size(), 42);
        for (Method m : HayBoard.class.getDeclaredMethods()) {
            boolean isPrivate = Modifier.isPrivate(m.getModifiers());
            due.is("neither public nor private: " + m.getName(), isPrivate || open.contains(m.getName()) ? 0 : 1, 0);
            due.is("a private one that bears a public name: " + m.getName(), isPrivate && open.contains(m.getName()) ? 1 : 0, 0);
        }
        int constants = 0;
        for (Field f : HayBoard.class.getDeclaredFields()) {
            boolean isPrivate = Modifier.isPrivate(f.getModifiers());
            constants += isPrivate ? 0 : 1;
        }
        due.is("constants of the face", constants, 8);
        for (Class<?> inside : HayBoard.class.getDeclaredClasses()) {
            due.is("static: " + inside, Modifier.isStatic(inside.getModifiers()) ? 1 : 0, 1);
            due.is("closed: " + inside, Modifier.isPublic(inside.getModifiers()) ? 1 : 0, 0);
            due.is("fields of " + inside, inside.getDeclaredFields().length <= 20 ? 1 : 0, 1);
            for (Method m : inside.getDeclaredMethods()) {
                due.is("a public name in " + inside + ": " + m.getName(), open.contains(m.getName()) ? 1 : 0, 0);
            }
        }
    }

    private static void methodsAreShort(Due due, String code) {
        int length = 0;
        for (String line : code.split("\n")) {
            length++;
            if (line.matches(" {4,8}[\\w<>\\[\\] ]+\\(.*\\) \\{")) {
                length = 0;
            }
            if (line.matches(" {4,8}\\}")) {
                due.is("a method of " + length + " lines", length <= 60 ? 1 : 0, 1);
                length = 0;
            }
        }
    }
}
