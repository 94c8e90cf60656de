import java.lang.reflect.Constructor;
import java.lang.reflect.Field;
import java.lang.reflect.Method;
import java.lang.reflect.Modifier;
import java.nio.charset.StandardCharsets;
import java.nio.file.Files;
import java.nio.file.Path;
import java.util.TreeSet;

/** The class has just the members that ../shared/DOC.md lists as its face; it is run in the project's folder. */
public final class FaceTest {
    private static final Check C = new Check();

    public static void main(String[] args) throws Exception {
        String doc = read("../shared/DOC.md");
        String source = "\n" + read("src/main/java/FadingTrumps.java");
        int head = doc.indexOf("## The public face");
        int start = doc.indexOf("```java\n", head);
        int end = doc.indexOf("\n```\n", start);
        C.due("the document has a face", Check.flag(head >= 0 && start > head && end > start), 1);
        TreeSet<String> due = new TreeSet<>();
        for (String line : doc.substring(start + 8, end).lines().toList()) {
            String words = line.trim();
            if (words.equals("}") || words.isEmpty()) {
                continue;
            }
            boolean isMember = words.startsWith("public") && words.endsWith(";");
            // a call has a body in the source, and all else stands there as it is
            String written = words.endsWith(");") || words.contains(" throws ") ? words.replace(";", " {") : words;
            C.due("'" + written + "' stands in the source", Check.flag(source.contains("\n" + (isMember ? "    " : "")
                + written)), 1);
            if (isMember) {
                due.add(withoutNames(words));
            }
        }
        compare(due, open());
        C.due("the class is public and final", FadingTrumps.class.getModifiers(), Modifier.PUBLIC | Modifier.FINAL);
        C.due("the class stands on nothing else", Check.flag(FadingTrumps.class.getSuperclass() == Object.class
            && FadingTrumps.class.getInterfaces().length == 0 && FadingTrumps.class.getPackageName().isEmpty()), 1);
        C.end();
    }

    private static String read(String file) throws Exception {
        return new String(Files.readAllBytes(Path.of(file)), StandardCharsets.UTF_8);
    }

    private static void compare(TreeSet<String> due, TreeSet<String> open) {
        for (String member : due) {
            C.due("the class has " + member, Check.flag(open.contains(member)), 1);
        }
        for (String member : open) {
            C.due("the document has " + member, Check.flag(due.contains(member)), 1);
        }
        C.due("members of the face", open.size(), 2 + 1 + 48);
    }

    /** A line of the document with the types of the arguments alone, as a compiled class keeps them. */
    private static String withoutNames(String line) {
        int open = line.indexOf('(');
        if (open < 0) {
            return line;
        }
        int close = line.indexOf(')');
        return line.substring(0, open) + line.substring(open, close).replaceAll("(\\w+) \\w+", "$1")
            + line.substring(close);
    }

    /** All that can be reached from outside the class, but for the classes inside it. */
    private static TreeSet<String> open() throws Exception {
        TreeSet<String> open = new TreeSet<>();
        for (Field f : FadingTrumps.class.getDeclaredFields()) {
            if (!Modifier.isPrivate(f.getModifiers())) {
                open.add(Modifier.toString(f.getModifiers()) + " " + f.getType().getSimpleName() + " " + f.getName()
                    + (Modifier.isStatic(f.getModifiers()) ? " = " + f.get(null) : "") + ";");
            }
        }
        for (Constructor<?> c : FadingTrumps.class.getDeclaredConstructors()) {
            if (!Modifier.isPrivate(c.getModifiers())) {
                open.add(Modifier.toString(c.getModifiers()) + " " + c.getDeclaringClass().getSimpleName()
                    + listed(c.getParameterTypes(), c.getExceptionTypes()));
            }
        }
        for (Method m : FadingTrumps.class.getDeclaredMethods()) {
            if (!Modifier.isPrivate(m.getModifiers())) {
                open.add(Modifier.toString(m.getModifiers()) + " " + m.getReturnType().getSimpleName() + " "
                    + m.getName() + listed(m.getParameterTypes(), m.getExceptionTypes()));
            }
        }
        return open;
    }

    private static String listed(Class<?>[] arguments, Class<?>[] thrown) {
        return "(" + names(arguments) + ")" + (thrown.length > 0 ? " throws " + names(thrown) : "") + ";";
    }

    private static String names(Class<?>[] types) {
        StringBuilder b = new StringBuilder();
        for (Class<?> type : types) {
            b.append(b.length() > 0 ? ", " : "").append(type.getSimpleName());
        }
        return b.toString();
    }
}
