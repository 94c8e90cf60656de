import java.lang.reflect.Field;
import java.lang.reflect.Method;
import java.lang.reflect.Modifier;
import java.nio.charset.StandardCharsets;
import java.nio.file.Files;
import java.nio.file.Path;
import java.util.List;
import java.util.regex.Matcher;
import java.util.regex.Pattern;

/** What can be seen of ../shared/LANGUAGE.md in the source and in the classes; it is run in the project's folder. */
public final class LanguageTest {
    private static final Check C = new Check();

    public static void main(String[] args) throws Exception {
        Path file = Path.of("src/main/java/FadingTrumps.java");
        String source = new String(Files.readAllBytes(file), StandardCharsets.ISO_8859_1);
        List<String> lines = source.lines().toList();
        for (int i = 0; i < lines.size(); i++) {
            line(i + 1, lines.get(i));
        }
        String code = source.replaceAll("(?s)/\\*.*?\\*/", "").replaceAll("//[^\n]*", "");
        names(code);
        lengths(lines);
        C.due("classes in the file", Check.flag(count(code, "\\bclass \\w+") <= 12), 1);
        C.due("throws in nested classes", count(code.substring(code.indexOf("static final class Rows")), "\\bthrow\\b"), 0);
        shape(FadingTrumps.class);
        for (Class<?> inside : FadingTrumps.class.getDeclaredClasses()) {
            int modifiers = inside.getModifiers();
            C.due(inside + " is static", Check.flag(Modifier.isStatic(modifiers)), 1);
            C.due(inside + " is open", Check.flag(Modifier.isPublic(modifiers) || Modifier.isProtected(modifiers)), 0);
            shape(inside);
        }
        C.end();
    }

    /** What a class keeps, and what its methods take. */
    private static void shape(Class<?> c) {
        int fields = 0;
        for (Field f : c.getDeclaredFields()) {
            if (Modifier.isStatic(f.getModifiers())) {
                C.due(f + " is a constant", Check.flag(Modifier.isFinal(f.getModifiers()) && f.getType() == int.class), 1);
            } else {
                fields++;
            }
        }
        C.due("fields of " + c, Check.flag(fields <= 20), 1);
        for (Method m : c.getDeclaredMethods()) {
            C.due("parameters of " + m, Check.flag(m.getParameterCount() <= 7), 1);
        }
    }

    private static void line(int number, String line) {
        String code = line.replaceAll("//.*|^\\s*/?\\*.*", "");
        String[] banned = {"\\bcatch\\b", "\\btry\\b", "->", "::", "\\bsynchronized\\b", "\\bassert\\b", "\\bfinally\\b",
            "\\bMath\\.\\w+Exact\\b", "\\bfloorMod\\b", "\\bprotected\\b", "\\.valueOf\\(", "\\.equals\\(", "\\bpackage\\b"};
        for (String b : banned) {
            C.due("line " + number + " without " + b, Check.flag(Pattern.compile(b).matcher(code).find()), 0);
        }
        C.due("signs of line " + number, Check.flag(line.matches("[ -~]{0,120}")), 1);
        if (code.startsWith("import")) {
            C.due("the import of line " + number, Check.flag(code.equals("import java.util.NoSuchElementException;")), 1);
        }
        if (code.contains("static") && code.contains("=") && !code.contains("(")) {
            C.due("the static field of line " + number + " is final", Check.flag(code.contains("static final")), 1);
        }
    }

    /** No method that is not public bears the name of a public one. */
    private static void names(String code) {
        Matcher m = Pattern.compile("\n    public [\\w]+ (\\w+)\\(").matcher(code);
        int publics = 0;
        while (m.find()) {
            publics++;
            String name = m.group(1);
            String other = "\n {4,8}(?!public|return|throw|else)(?:private |static )*[\\w\\[\\]]+ " + name + "\\(";
            C.due("other methods called " + name, count(code, other), 0);
        }
        C.due("public methods", publics, 48);
    }

    /** A method stays under some sixty lines. */
    private static void lengths(List<String> lines) {
        int start = 0;
        for (int i = 0; i < lines.size(); i++) {
            String line = lines.get(i);
            if (line.matches(" {4,8}[\\w\\[\\] ]+\\(.*\\{")) {
                start = i;
            }
            if (line.equals("    }") || line.equals("        }")) {
                boolean ofClass = line.equals("    }") && lines.get(start).startsWith("        ");
                C.due("the method at line " + (start + 1), Check.flag(ofClass || i - start < 60), 1);
            }
        }
    }

    private static int count(String text, String pattern) {
        Matcher m = Pattern.compile(pattern).matcher(text);
        int n = 0;
        while (m.find()) {
            n++;
        }
        return n;
    }
}
