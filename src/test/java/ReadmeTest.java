import java.io.ByteArrayOutputStream;
import java.io.PrintStream;
import java.lang.reflect.Method;
import java.lang.reflect.Modifier;
import java.nio.charset.StandardCharsets;
import java.nio.file.Files;
import java.nio.file.Path;

/** What README.md shows is what the class does and what .ci/run runs; it is run in the project's folder. */
public final class ReadmeTest {
    private static final Check C = new Check();

    public static void main(String[] args) throws Exception {
        String readme = read("README.md");
        String example = read("src/test/java/Example.java");
        C.due("the program of README.md is Example.java", Check.flag(
            example.endsWith("*/\n" + block(readme, "java"))), 1);
        C.due("it prints what README.md tells", Check.flag(printed().equals(block(readme, "text"))), 1);
        for (Method m : FadingTrumps.class.getDeclaredMethods()) {
            if (Modifier.isPublic(m.getModifiers())) {
                C.due("README.md names " + m.getName(), Check.flag(readme.contains("`" + m.getName() + "`")), 1);
            }
        }
        tests(readme);
        C.end();
    }

    private static String read(String file) throws Exception {
        return new String(Files.readAllBytes(Path.of(file)), StandardCharsets.UTF_8);
    }

    /** The first block of a kind, empty without one. */
    private static String block(String readme, String kind) {
        String head = "```" + kind + "\n";
        int start = readme.indexOf(head);
        int end = start < 0 ? -1 : readme.indexOf("```\n", start + head.length());
        return end < 0 ? "" : readme.substring(start + head.length(), end);
    }

    private static String printed() {
        PrintStream before = System.out;
        ByteArrayOutputStream bytes = new ByteArrayOutputStream();
        System.setOut(new PrintStream(bytes, true, StandardCharsets.UTF_8));
        Example.main(new String[0]);
        System.setOut(before);
        return bytes.toString(StandardCharsets.UTF_8).replace("\r\n", "\n");
    }

    /** Each test that .ci/run finds is told, and none that it does not find. */
    private static void tests(String readme) throws Exception {
        String told = readme.substring(Math.max(0, readme.indexOf("\n## Tests")));
        String[] files = Path.of("src/test/java").toFile().list((folder, name) -> name.endsWith("Test.java"));
        int count = files == null ? 0 : files.length;
        for (int i = 0; i < count; i++) {
            String name = files[i].replace(".java", "");
            C.due("README.md tells of " + name, Check.flag(told.contains("\n- `" + name + "`: ")), 1);
        }
        C.due("tests told", told.split("\n- `\\w+Test`: ", -1).length - 1, count);
    }
}
