import java.io.IOException;
import java.nio.charset.StandardCharsets;
import java.nio.file.Files;
import java.nio.file.Path;
import java.util.Arrays;
import java.util.LinkedHashMap;
import java.util.Map;
import java.util.regex.Matcher;
import java.util.regex.Pattern;

/**
 * The document, cut into its sections, and what of it tests have quoted: each test stands behind the sentence that it
 * holds the class to, and at the end no sentence may be left without a test.
 */
final class Doc {
    private final Map<String, StringBuilder> sections = new LinkedHashMap<>();
    private final Map<String, boolean[]> quoted = new LinkedHashMap<>();
    private final Check check;

    Doc(Path file, Check check) throws IOException {
        this.check = check;
        cut(new String(Files.readAllBytes(file), StandardCharsets.UTF_8));
        for (Map.Entry<String, StringBuilder> section : sections.entrySet()) {
            quoted.put(section.getKey(), new boolean[section.getValue().length()]);
        }
    }

    private void cut(String text) {
        Pattern term = Pattern.compile("(\\d+)\\. [A-Z ]+");
        Pattern promise = Pattern.compile("## Promise (\\d+): .*");
        String section = null;
        for (String line : text.split("\n")) {
            Matcher t = term.matcher(line);
            Matcher p = promise.matcher(line);
            if (t.matches()) {
                section = "Terms " + t.group(1);
            } else if (p.matches()) {
                section = "Promise " + p.group(1);
            } else if (line.startsWith("#")) {
                section = null;
            } else if (line.startsWith("The constants:")) {
                section = "Constants";
                add(section, line.replaceFirst("^[^`]*`[^`]*`: ", ""));
            } else if (section != null && !line.startsWith("```")) {
                // the head of a call or of a constant is code, not a sentence
                add(section, line.replaceFirst("^`[^`]*`: ", ""));
            }
        }
    }

    private void add(String section, String line) {
        String words = line.trim().replaceAll("\\s+", " ");
        StringBuilder b = sections.computeIfAbsent(section, s -> new StringBuilder());
        if (!words.isEmpty()) {
            b.append(b.length() > 0 ? " " : "").append(words);
        }
    }

    void term(int number, String sentence, Runnable test) {
        holds("Terms " + number, sentence, test);
    }

    void promise(int number, String sentence, Runnable test) {
        holds("Promise " + number, sentence, test);
    }

    void constants(String sentence, Runnable test) {
        holds("Constants", sentence, test);
    }

    private void holds(String section, String sentence, Runnable test) {
        StringBuilder text = sections.get(section);
        int at = text == null ? -1 : text.indexOf(sentence);
        check.due("'" + sentence + "' stands in " + section, Check.flag(at >= 0), 1);
        if (at >= 0) {
            Arrays.fill(quoted.get(section), at, at + sentence.length(), true);
        }
        int passed = check.passed();
        int failed = check.failed();
        test.run();
        check.due("the test of '" + sentence + "' asks something", Check.flag(check.passed() > passed), 1);
        if (check.failed() > failed) {
            System.out.println("   .. in " + section + ": " + sentence);
        }
    }

    /** What no test has quoted is told, if it says anything. */
    void end() {
        check.due("sections of the document", sections.size(), 8 + 49 + 1);
        for (Map.Entry<String, StringBuilder> section : sections.entrySet()) {
            StringBuilder left = new StringBuilder();
            boolean[] marks = quoted.get(section.getKey());
            for (int i = 0; i < marks.length; i++) {
                left.append(marks[i] ? '|' : section.getValue().charAt(i));
            }
            String rest = left.toString().replaceAll("\\|+", "|");
            check.due("without a test in " + section.getKey() + ": " + rest, Check.flag(rest.matches("[^\\w]*")), 1);
        }
    }
}
