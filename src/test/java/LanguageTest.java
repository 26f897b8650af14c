import java.lang.reflect.Field;
import java.lang.reflect.Method;
import java.lang.reflect.Modifier;
import java.nio.file.Files;
import java.nio.file.Path;
import java.util.Set;
import java.util.TreeSet;
import java.util.regex.Matcher;
import java.util.regex.Pattern;

/** The rules of LANGUAGE.md that can be read from the source file, or from the class. */
public final class LanguageTest {
    private static final Due due = new Due("LanguageTest");
    private static final Set<String> FACE = Set.of("feed", "end", "text", "fault", "crossbar", "deed", "stop", "state",
        "cell", "full", "rhythm", "judge", "mimic", "flow", "after", "fact", "fits", "drawn", "count", "image", "again");

    public static void main(String[] args) throws Exception {
        String source = Files.readString(Path.of(args.length > 0 ? args[0] : "src/main/java/CrossbarHouse.java"));
        String code = source.replaceAll("(?s)/\\*.*?\\*/", "").replaceAll("//[^\n]*", "")
            .replaceAll("\"[^\"\n]*\"", "\"\"").replaceAll("'[^'\n]*'", "' '");
        face();
        words(code);
        methods(code);
        due.end();
    }

    private static void face() {
        Set<String> seen = new TreeSet<>();
        for (Method m : CrossbarHouse.class.getDeclaredMethods()) {
            if (Modifier.isPublic(m.getModifiers())) {
                seen.add(m.getName());
            } else if (!m.isSynthetic()) {
                due.same("private method " + m.getName(), Modifier.isPrivate(m.getModifiers()), true);
                due.same("a public one's name: " + m.getName(), FACE.contains(m.getName()), false);
            }
        }
        due.same("the face is " + seen, seen.equals(FACE), true);
        for (Field f : CrossbarHouse.class.getDeclaredFields()) {
            boolean isFace = f.getName().equals("NONE");
            due.same("field " + f.getName(), isFace ? Modifier.isPublic(f.getModifiers())
                : Modifier.isPrivate(f.getModifiers()), true);
        }
        Class<?>[] inside = CrossbarHouse.class.getDeclaredClasses();
        due.same("classes", inside.length + 1 <= 12, true);
        for (Class<?> c : inside) {
            int own = 0;
            for (Field f : c.getDeclaredFields()) {
                boolean isStatic = Modifier.isStatic(f.getModifiers());
                own += isStatic ? 0 : 1;
                due.same("static field " + f, !isStatic || Modifier.isFinal(f.getModifiers()), true);
            }
            due.same("fields of " + c, own <= 20, true);
            due.same(c + " is static", Modifier.isStatic(c.getModifiers()), true);
            for (Method m : c.getDeclaredMethods()) {
                due.same("a public one's name: " + m.getName(), FACE.contains(m.getName()), false);
            }
        }
    }

    private static void words(String code) {
        for (String word : new String[] {"try", "catch", "throw", "throws", "synchronized", "assert", "import", "package",
            "protected", "volatile", "native", "var", "System\\.(?!arraycopy)", "Random", "Exact"}) {
            Matcher m = Pattern.compile("\\b" + word).matcher(code);
            while (m.find()) {
                String rest = code.substring(m.start(), Math.min(code.length(), m.start() + 20));
                due.same("forbidden: " + rest, rest.matches("(?s)" + word + "[a-zA-Z].*"), true);
            }
        }
        due.same("a lambda", code.contains("->"), false);
        due.same("a method reference", code.contains("::"), false);
        for (int k = 0; k < code.length(); k++) {
            due.same("sign " + (int) code.charAt(k), code.charAt(k) < 128, true);
        }
    }

    private static void methods(String code) {
        String[] lines = code.split("\n");
        Pattern head = Pattern.compile("^(    |        )(public |private |static |final )*[A-Za-z\\[\\]]+ ?[A-Za-z0-9]*\\(([^)]*)\\) \\{$");
        int seen = 0;
        for (int k = 0; k < lines.length; k++) {
            Matcher m = head.matcher(lines[k]);
            if (m.matches()) {
                seen++;
                int end = k;
                while (!lines[end].equals(m.group(1) + "}")) {
                    end++;
                }
                due.same("lines of " + lines[k].trim(), end - k < 60, true);
                due.same("parameters of " + lines[k].trim(), m.group(3).split(",").length <= 7, true);
            }
        }
        due.same("methods were seen", seen > 100, true);
    }
}
