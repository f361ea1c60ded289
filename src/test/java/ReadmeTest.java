import java.io.ByteArrayOutputStream;
import java.io.IOException;
import java.io.PrintStream;
import java.lang.reflect.Method;
import java.lang.reflect.Modifier;
import java.nio.charset.StandardCharsets;
import java.nio.file.Files;
import java.nio.file.Path;

/** What README.md shows of the class is so. */
public final class ReadmeTest extends Cases {
    public static void main(String[] args) {
        run(ReadmeTest.class);
    }

    @Case("README.md shows the program that is tested")
    void programIsExample() throws IOException {
        same("the program", block("java"), read("src/test/java/Example.java"));
    }

    @Case("README.md shows what its program prints")
    void programPrintsWhatIsShown() throws IOException {
        same("what it prints", printed(), block("text"));
    }

    @Case("README.md says how to use each call")
    void everyCallIsNamed() throws IOException {
        String text = read("README.md").replace(block("java"), "");
        for (Method method : MirrorKeep.class.getDeclaredMethods()) {
            if (Modifier.isPublic(method.getModifiers())) {
                String call = "`" + method.getName() + "(";
                same("README.md names " + call, text.contains(call) ? 1 : 0, 1);
            }
        }
    }

    @Case("README.md says how to run the tests")
    void testsAreRunByCi() throws IOException {
        same("README.md names .ci/run", read("README.md").contains("\n    .ci/run\n") ? 1 : 0, 1);
        same(".ci/run can be run", Files.isExecutable(Path.of(".ci/run")) ? 1 : 0, 1);
    }

    private static String read(String file) throws IOException {
        return Files.readString(Path.of(file), StandardCharsets.UTF_8);
    }

    /** The first block of README.md that bears that name; nothing if there is none. */
    private static String block(String name) throws IOException {
        String text = read("README.md");
        String fence = "\n```" + name + "\n";
        int start = text.indexOf(fence);
        int end = start < 0 ? -1 : text.indexOf("\n```\n", start + fence.length());
        return end < 0 ? "" : text.substring(start + fence.length(), end + 1);
    }

    private static String printed() {
        PrintStream usual = System.out;
        ByteArrayOutputStream bytes = new ByteArrayOutputStream();
        System.setOut(new PrintStream(bytes, true, StandardCharsets.UTF_8));
        try {
            Example.main(new String[0]);
        } finally {
            System.setOut(usual);
        }
        return bytes.toString(StandardCharsets.UTF_8).replace(System.lineSeparator(), "\n");
    }
}
