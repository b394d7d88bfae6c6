import java.io.IOException;
import java.lang.reflect.Field;
import java.lang.reflect.Method;
import java.lang.reflect.Modifier;
import java.nio.file.Files;
import java.nio.file.Path;
import java.util.HashSet;
import java.util.Set;
import java.util.regex.Matcher;
import java.util.regex.Pattern;

/** What of ../shared/LANGUAGE.md can be seen from outside: its words, and the shape of the classes. */
public final class LanguageTest {
    /** Read from the project's folder, where .ci/run stands when it runs the tests. */
    private static final Path SOURCE = Path.of("src/main/java/FindingHouse.java");
    private static final String[] UNWANTED = {"throw", "throws", "try", "catch", "finally", "synchronized", "assert",
        "package", "native", "volatile", "Thread", "Random", "Object", "hashCode", "nanoTime", "currentTimeMillis"};
    private static final String[] UNWANTED_SIGNS = {"->", "::", "static {", "Exact("};

    public static void main(String[] args) throws IOException {
        Due due = new Due();
        String code = withoutComments(Files.readString(SOURCE));
        usesNoUnwantedWords(due, code);
        keepsMethodsShort(due, code);
        makesObjectsInConstructorsAlone(due, code);
        Class<?>[] classes = FindingHouse.class.getDeclaredClasses();
        due.holds("twelve classes at the most", classes.length + 1 <= 12);
        keepsItsShape(due, FindingHouse.class);
        for (Class<?> inside : classes) {
            due.holds(inside + " is static", Modifier.isStatic(inside.getModifiers()));
            due.holds(inside + " is not public", !Modifier.isPublic(inside.getModifiers()));
            keepsItsShape(due, inside);
        }
        hidesNoPublicName(due, classes);
        due.close();
    }

    private static String withoutComments(String source) {
        return source.replaceAll("(?s)/\\*.*?\\*/", "").replaceAll("//[^\n]*", "");
    }

    private static void usesNoUnwantedWords(Due due, String code) {
        for (String word : UNWANTED) {
            due.refused("uses " + word, Pattern.compile("\\b" + word + "\\b").matcher(code).find());
        }
        for (String sign : UNWANTED_SIGNS) {
            due.refused("uses " + sign, code.contains(sign));
        }
    }

    private static void keepsMethodsShort(Due due, String code) {
        // A method's body ends with the first brace that stands as far in as its head.
        Matcher method = Pattern.compile("(?ms)^( +)[\\w\\[\\] ]+\\([^;{}]*\\) \\{$.*?^\\1\\}$").matcher(code);
        int methods = 0;
        while (method.find()) {
            methods++;
            long lines = method.group().lines().count();
            due.holds("sixty lines at the most: " + method.group().lines().findFirst().get(), lines <= 60);
        }
        due.holds("methods were seen", methods > 16);
    }

    /** The room is kept small so: only a field, or the constructor of the house, makes something. */
    private static void makesObjectsInConstructorsAlone(Due due, String code) {
        int from = code.indexOf("public FindingHouse() {");
        String others = code.substring(0, from) + code.substring(code.indexOf("\n    }", from));
        for (String line : others.split("\n")) {
            due.holds("makes nothing:" + line, !line.contains(" new ") || line.trim().startsWith("private "));
        }
    }

    private static void keepsItsShape(Due due, Class<?> type) {
        int fields = 0;
        for (Field field : type.getDeclaredFields()) {
            boolean isStatic = Modifier.isStatic(field.getModifiers());
            fields += isStatic ? 0 : 1;
            due.holds(field + " is no static state", !isStatic || Modifier.isFinal(field.getModifiers()));
        }
        due.holds(type + " has twenty fields at the most", fields <= 20);
        for (Method method : type.getDeclaredMethods()) {
            due.holds(method + " takes seven at the most", method.getParameterCount() <= 7);
        }
    }

    private static void hidesNoPublicName(Due due, Class<?>[] classes) {
        Set<String> shown = new HashSet<>();
        Set<String> others = new HashSet<>();
        for (Method method : FindingHouse.class.getDeclaredMethods()) {
            (Modifier.isPublic(method.getModifiers()) ? shown : others).add(method.getName());
        }
        for (Class<?> inside : classes) {
            for (Method method : inside.getDeclaredMethods()) {
                others.add(method.getName());
            }
        }
        for (String name : shown) {
            due.refused("another method is named " + name, others.contains(name));
        }
    }
}
