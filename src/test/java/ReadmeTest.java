import java.io.ByteArrayOutputStream;
import java.io.IOException;
import java.io.PrintStream;
import java.lang.reflect.Method;
import java.lang.reflect.Modifier;
import java.nio.file.Files;
import java.nio.file.Path;

/** README.md tells how the class is used as it really is: the example with what it prints, every call, every test. */
public final class ReadmeTest {
    public static void main(String[] args) throws IOException {
        Due due = new Due();
        String page = Files.readString(Path.of("README.md"));
        due.yes("the example stands there", page.contains("```java\n" + Files.readString(Path.of("src/test/java/Example.java")) + "```"));
        due.yes("what it prints stands there", page.contains("```text\n" + printed() + "```"));
        for (Method call : ReasonCloser.class.getDeclaredMethods()) {
            if (Modifier.isPublic(call.getModifiers())) {
                due.yes("the call " + call.getName(), page.contains("`" + call.getName() + "`"));
            }
        }
        try (var tests = Files.newDirectoryStream(Path.of("src/test/java"), "*Test.java")) {
            for (Path test : tests) {
                due.yes("the test " + test, page.contains("- `" + test.getFileName().toString().replace(".java", "`: ")));
            }
        }
        due.yes("how tests are run", page.contains("## How its tests are run") && page.contains(".ci/run"));
        due.end();
    }

    private static String printed() {
        PrintStream before = System.out;
        ByteArrayOutputStream bytes = new ByteArrayOutputStream();
        System.setOut(new PrintStream(bytes));
        Example.main(new String[0]);
        System.out.flush();
        System.setOut(before);
        return bytes.toString().replace("\r\n", "\n");
    }
}
