import java.io.IOException;
import java.io.UncheckedIOException;
import java.lang.reflect.Executable;
import java.lang.reflect.Field;
import java.lang.reflect.Modifier;
import java.nio.charset.StandardCharsets;
import java.nio.file.Files;
import java.nio.file.Path;
import java.util.ArrayList;
import java.util.Arrays;
import java.util.List;
import java.util.Set;
import java.util.TreeSet;
import java.util.regex.Matcher;
import java.util.regex.Pattern;

/** The class keeps to those rules of LANGUAGE.md that its text and its members can show; FaceTest has rules 1 and 5. */
public final class LanguageTest extends Cases {
    private static final Set<String> LIBRARY = Set.of("String", "StringBuilder", "Integer", "Long", "Math", "System",
        "Arrays", "ArrayList", "List", "Iterator", "Iterable", "Comparable");
    private static final Set<String> EXCEPTIONS = Set.of("IllegalStateException", "IllegalArgumentException",
        "IndexOutOfBoundsException", "ArithmeticException", "UnsupportedOperationException", "NoSuchElementException",
        "RuntimeException");
    private static final int MOST_PARAMETERS = 7;
    private static final int MOST_LINES = 60;
    private static final int MOST_CLASSES = 12;
    private static final int MOST_FIELDS = 20;

    private final String text = withoutCommentsAndTexts(read("src/main/java/MirrorKeep.java"));

    public static void main(String[] args) {
        run(LanguageTest.class);
    }

    @Case("The program is one file, src/main/java/MirrorKeep.java, without a package line")
    void thereIsNoPackageAndNoOtherFile() throws IOException {
        isNot("package\\s");
        try (var files = Files.walk(Path.of("src/main"))) {
            same("files under src/main", files.filter(Files::isRegularFile).count(), 1);
        }
    }

    @Case("2. .. no local class that captures a variable, no lambda, no method reference.")
    void thereIsNoLambda() {
        isNot("->");
        isNot("::");
    }

    @Case("3. Types .. 4. The library: only what stands here.")
    void everyTypeIsItsOwnOrListed() {
        Set<String> known = new TreeSet<>(LIBRARY);
        known.addAll(EXCEPTIONS);
        for (Class<?> type : classes()) {
            known.add(type.getSimpleName());
        }
        Set<String> named = found("\\b([A-Z][A-Za-z0-9]*[a-z][A-Za-z0-9]*)\\b");
        named.removeAll(known);
        same("types that are not listed", named.toString(), "[]");
    }

    @Case("4. The library: only what stands here.")
    void everyCallOfTheLibraryIsListed() {
        Set<String> called = found("\\b((?:Arrays|System)\\s*\\.\\s*\\w+)");
        called.removeAll(Set.of("Arrays.copyOf", "Arrays.copyOfRange", "Arrays.fill", "System.arraycopy"));
        same("calls that are not listed", called.toString(), "[]");
        isNot("Exact\\s*\\(");
        same("imports", found("import\\s+([\\w.*]+)").toString(), "[java.util.Arrays]");
        same("uses of java. elsewhere", found("(?<!import )\\b(javax?\\.\\w+)").toString(), "[]");
    }

    @Case("5. .. No other static state, no static initialiser block.")
    void thereIsNoStaticBlock() {
        isNot("static\\s*\\{");
    }

    @Case("6. Exceptions: throw new E() or throw new E(\"a written text\")")
    void everyThrowIsOfAWrittenText() {
        Matcher matcher = Pattern.compile("\\bthrow\\b([^;]*);").matcher(text);
        while (matcher.find()) {
            String thrown = matcher.group(1).trim();
            String known = thrown.replaceAll("^new (\\w+)\\((\"\")?\\)$", "$1");
            same("throw " + thrown + " is listed", EXCEPTIONS.contains(known) ? 1 : 0, 1);
        }
    }

    /** The class never needs to catch: what the document wants thrown goes to the caller. */
    @Case("6. .. No finally, no try with resources .. No synchronized, assert")
    void nothingIsCaught() {
        isNot("\\b(try|catch|finally|synchronized|assert)\\b");
    }

    @Case("6. .. No equals, hashCode or toString of your own objects")
    void objectsAreNotCompared() {
        isNot("\\b(equals|hashCode|toString|getClass)\\b");
    }

    @Case("10. .. joining texts by StringBuilder (not by +).")
    void textsAreNotJoinedByPlus() {
        isNot("\"\"\\s*\\+");
        isNot("\\+\\s*\"\"");
    }

    @Case("11. A method takes at most seven parameters.")
    void parametersAreFew() {
        for (Class<?> type : classes()) {
            List<Executable> all = new ArrayList<>(Arrays.asList(type.getDeclaredMethods()));
            all.addAll(Arrays.asList(type.getDeclaredConstructors()));
            for (Executable one : all) {
                isAtMost("parameters of " + one, one.getParameterCount(), MOST_PARAMETERS);
            }
        }
    }

    @Case("11. .. Methods stay short (some sixty lines)")
    void methodsAreShort() {
        String[] lines = text.split("\n");
        for (int i = 0; i < lines.length; i++) {
            if (lines[i].matches("(    |        )\\w.*\\) ?.*\\{")) {
                String last = lines[i].replaceAll("\\S.*", "") + "}";
                int end = i;
                while (end < lines.length - 1 && !lines[end].equals(last)) {
                    end++;
                }
                isAtMost("lines of " + lines[i].trim(), end - i + 1, MOST_LINES);
            }
        }
    }

    @Case("11. .. the file has at most some twelve classes, and a class some twenty fields beside its constants.")
    void classesAndFieldsAreFew() {
        isAtMost("classes", classes().size(), MOST_CLASSES);
        for (Class<?> type : classes()) {
            int fields = 0;
            for (Field field : type.getDeclaredFields()) {
                fields += Modifier.isStatic(field.getModifiers()) ? 0 : 1;
            }
            isAtMost("fields of " + type, fields, MOST_FIELDS);
        }
    }

    private static String read(String file) {
        try {
            return Files.readString(Path.of(file), StandardCharsets.UTF_8);
        } catch (IOException e) {
            throw new UncheckedIOException(e);
        }
    }

    private static String withoutCommentsAndTexts(String java) {
        return java.replaceAll("\"[^\"\n]*\"", "\"\"").replaceAll("//[^\n]*", "").replaceAll("(?s)/\\*.*?\\*/", "");
    }

    private static List<Class<?>> classes() {
        List<Class<?>> classes = new ArrayList<>();
        classes.add(MirrorKeep.class);
        classes.addAll(Arrays.asList(MirrorKeep.class.getDeclaredClasses()));
        return classes;
    }

    private Set<String> found(String pattern) {
        Set<String> found = new TreeSet<>();
        Matcher matcher = Pattern.compile(pattern).matcher(text);
        while (matcher.find()) {
            found.add(matcher.group(1));
        }
        return found;
    }

    private void isNot(String pattern) {
        same("uses of " + pattern, found("(" + pattern + ")").toString(), "[]");
    }

    private void isAtMost(String what, int got, int most) {
        same(what + ", " + got + ", are at most " + most, got <= most ? 1 : 0, 1);
    }
}
