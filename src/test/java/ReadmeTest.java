import java.io.ByteArrayOutputStream;
import java.io.File;
import java.io.IOException;
import java.io.PrintStream;
import java.nio.charset.StandardCharsets;
import java.nio.file.Files;
import java.nio.file.Path;

/** README.md says how to use the class and how to run its tests; run where README.md stands. */
public final class ReadmeTest {
    private static final String[] FACE = {
        "MarkedNames()", "boolean type(int word, int n)", "int rules()", "int expand(int fuel)",
        "int at(int i)", "int count(int what)"
    };

    public static void main(String[] args) throws IOException {
        Checker checker = new Checker();
        String readme = Files.readString(Path.of("README.md"));
        for (String member : FACE) {
            checker.same("README.md on " + member, readme.contains(member), true);
        }
        checker.same("README.md on .ci/run", readme.contains("    .ci/run\n"), true);
        lookAtTests(checker, readme);
        lookAtExample(checker, readme);
        checker.end();
    }

    private static void lookAtTests(Checker checker, String readme) {
        File[] files = new File("src/test/java").listFiles();
        for (File file : files == null ? new File[0] : files) {
            String name = file.getName().replace(".java", "");
            checker.same("README.md on " + name, readme.contains("`" + name + "`"), true);
        }
    }

    private static void lookAtExample(Checker checker, String readme) throws IOException {
        String source = Files.readString(Path.of("src/test/java/Example.java"));
        String code = source.substring(source.indexOf("public final class"));
        checker.same("README.md on the code of Example", readme.contains("```java\n" + code + "```"), true);
        checker.same("README.md on what Example prints", readme.contains("```text\n" + printed() + "```"), true);
    }

    private static String printed() {
        PrintStream screen = System.out;
        ByteArrayOutputStream bytes = new ByteArrayOutputStream();
        System.setOut(new PrintStream(bytes, true, StandardCharsets.UTF_8));
        Example.main(new String[0]);
        System.setOut(screen);
        return bytes.toString(StandardCharsets.UTF_8);
    }
}
